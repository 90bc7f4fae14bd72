section
def RX0 : String := "ParrotSongs$History"
def TX0 : u_T := fun k => match k with
  | 0 => ("ParrotSongs$History", "states", "[LParrotSongs$House;", true)
  | 1 => ("ParrotSongs$History", "before", "LParrotSongs$House;", false)
  | _ => ("ParrotSongs$History", "count", "I", false)
def tyX0 : Nat → FieldType := fun k => match k with
  | 0 => .array (.object "ParrotSongs$House")
  | 1 => .object "ParrotSongs$House"
  | _ => .int
abbrev wsX00 : List Cond := u_ws RX0 TX0 3
theorem nmX0 : ∀ a, a < 3 → ∀ b, b < 3 → a ≠ b → (TX0 a).2.1 ≠ (TX0 b).2.1 := by decide +kernel
theorem tyX0_ok : ∀ k, k < 3 → parseFieldDescriptor (TX0 k).2.2.1 = some (tyX0 k) := by decide +kernel
abbrev cX0_init : ByteArray := prog_2_method_1_code
def yX0_init : MethodName := ⟨RX0, "<init>", "()V"⟩
abbrev cX0_noteBefore : ByteArray := prog_2_method_2_code
def yX0_noteBefore : MethodName := ⟨RX0, "noteBefore", "(LParrotSongs$House;)V"⟩
abbrev cX0_keepUnlessError : ByteArray := prog_2_method_3_code
def yX0_keepUnlessError : MethodName := ⟨RX0, "keepUnlessError", "(I)I"⟩
abbrev cX0_record : ByteArray := prog_2_method_4_code
def yX0_record : MethodName := ⟨RX0, "record", "()V"⟩
abbrev cX0_dropOldest : ByteArray := prog_2_method_5_code
def yX0_dropOldest : MethodName := ⟨RX0, "dropOldest", "()V"⟩
abbrev cX0_takeBack : ByteArray := prog_2_method_6_code
def yX0_takeBack : MethodName := ⟨RX0, "takeBack", "(LParrotSongs$House;)I"⟩
def RX1 : String := "ParrotSongs$House"
def TX1 : u_T := fun k => match k with
  | 0 => ("ParrotSongs$House", "settings", "[I", true)
  | 1 => ("ParrotSongs$House", "songs", "LParrotSongs$Songbook;", true)
  | 2 => ("ParrotSongs$House", "parrots", "[LParrotSongs$Parrot;", true)
  | 3 => ("ParrotSongs$House", "parrotCount", "I", false)
  | 4 => ("ParrotSongs$House", "nights", "I", false)
  | _ => ("ParrotSongs$House", "sung", "[I", true)
def tyX1 : Nat → FieldType := fun k => match k with
  | 0 => .array .int
  | 1 => .object "ParrotSongs$Songbook"
  | 2 => .array (.object "ParrotSongs$Parrot")
  | 3 => .int
  | 4 => .int
  | _ => .array .int
abbrev wsX10 : List Cond := u_ws RX1 TX1 6
theorem nmX1 : ∀ a, a < 6 → ∀ b, b < 6 → a ≠ b → (TX1 a).2.1 ≠ (TX1 b).2.1 := by decide +kernel
theorem tyX1_ok : ∀ k, k < 6 → parseFieldDescriptor (TX1 k).2.2.1 = some (tyX1 k) := by decide +kernel
abbrev cX1_init : ByteArray := prog_3_method_1_code
def yX1_init : MethodName := ⟨RX1, "<init>", "()V"⟩
abbrev cX1_copyFrom : ByteArray := prog_3_method_2_code
def yX1_copyFrom : MethodName := ⟨RX1, "copyFrom", "(LParrotSongs$House;)V"⟩
abbrev cX1_changeSetting : ByteArray := prog_3_method_3_code
def yX1_changeSetting : MethodName := ⟨RX1, "changeSetting", "(II)I"⟩
abbrev cX1_addParrot : ByteArray := prog_3_method_4_code
def yX1_addParrot : MethodName := ⟨RX1, "addParrot", "()I"⟩
abbrev cX1_hasParrot : ByteArray := prog_3_method_5_code
def yX1_hasParrot : MethodName := ⟨RX1, "hasParrot", "(I)Z"⟩
abbrev cX1_isTired : ByteArray := prog_3_method_6_code
def yX1_isTired : MethodName := ⟨RX1, "isTired", "(LParrotSongs$Parrot;)Z"⟩
abbrev cX1_teach : ByteArray := prog_3_method_7_code
def yX1_teach : MethodName := ⟨RX1, "teach", "(III)I"⟩
abbrev cX1_singWholeTo : ByteArray := prog_3_method_8_code
def yX1_singWholeTo : MethodName := ⟨RX1, "singWholeTo", "(LParrotSongs$Parrot;I)V"⟩
abbrev cX1_silence : ByteArray := prog_3_method_9_code
def yX1_silence : MethodName := ⟨RX1, "silence", "(I)I"⟩
abbrev cX1_letPractise : ByteArray := prog_3_method_10_code
def yX1_letPractise : MethodName := ⟨RX1, "letPractise", "(II)I"⟩
abbrev cX1_findSung : ByteArray := prog_3_method_11_code
def yX1_findSung : MethodName := ⟨RX1, "findSung", "(LParrotSongs$Parrot;I)I"⟩
abbrev cX1_singSungTo : ByteArray := prog_3_method_12_code
def yX1_singSungTo : MethodName := ⟨RX1, "singSungTo", "(LParrotSongs$Parrot;I)V"⟩
abbrev cX1_passNight : ByteArray := prog_3_method_13_code
def yX1_passNight : MethodName := ⟨RX1, "passNight", "()I"⟩
abbrev cX1_parrotsKnowing : ByteArray := prog_3_method_14_code
def yX1_parrotsKnowing : MethodName := ⟨RX1, "parrotsKnowing", "(I)I"⟩
abbrev cX1_tiredParrots : ByteArray := prog_3_method_15_code
def yX1_tiredParrots : MethodName := ⟨RX1, "tiredParrots", "()I"⟩
abbrev cX1_heardByAll : ByteArray := prog_3_method_16_code
def yX1_heardByAll : MethodName := ⟨RX1, "heardByAll", "()I"⟩
abbrev cX1_linksOfAll : ByteArray := prog_3_method_17_code
def yX1_linksOfAll : MethodName := ⟨RX1, "linksOfAll", "()I"⟩
abbrev cX1_forgottenByAll : ByteArray := prog_3_method_18_code
def yX1_forgottenByAll : MethodName := ⟨RX1, "forgottenByAll", "()I"⟩
def RX2 : String := "ParrotSongs$Pad"
def TX2 : u_T := fun k => match k with
  | 0 => ("ParrotSongs$Pad", "text", "[C", true)
  | _ => ("ParrotSongs$Pad", "length", "I", false)
def tyX2 : Nat → FieldType := fun k => match k with
  | 0 => .array .char
  | _ => .int
abbrev wsX20 : List Cond := u_ws RX2 TX2 2
theorem nmX2 : ∀ a, a < 2 → ∀ b, b < 2 → a ≠ b → (TX2 a).2.1 ≠ (TX2 b).2.1 := by decide +kernel
theorem tyX2_ok : ∀ k, k < 2 → parseFieldDescriptor (TX2 k).2.2.1 = some (tyX2 k) := by decide +kernel
abbrev cX2_init : ByteArray := prog_4_method_1_code
def yX2_init : MethodName := ⟨RX2, "<init>", "()V"⟩
abbrev cX2_signAt : ByteArray := prog_4_method_2_code
def yX2_signAt : MethodName := ⟨RX2, "signAt", "(I)C"⟩
abbrev cX2_append : ByteArray := prog_4_method_3_code
def yX2_append : MethodName := ⟨RX2, "append", "(J)I"⟩
abbrev cX2_sizeOf : ByteArray := prog_4_method_4_code
def yX2_sizeOf : MethodName := ⟨RX2, "sizeOf", "(J)I"⟩
def RX3 : String := "ParrotSongs$Parrot"
def TX3 : u_T := fun k => match k with
  | 0 => ("ParrotSongs$Parrot", "links", "[[I", true)
  | 1 => ("ParrotSongs$Parrot", "count", "I", false)
  | 2 => ("ParrotSongs$Parrot", "last", "I", false)
  | 3 => ("ParrotSongs$Parrot", "heardToday", "I", false)
  | 4 => ("ParrotSongs$Parrot", "heardInAll", "I", false)
  | _ => ("ParrotSongs$Parrot", "forgotten", "I", false)
def tyX3 : Nat → FieldType := fun k => match k with
  | 0 => .array (.array .int)
  | 1 => .int
  | 2 => .int
  | 3 => .int
  | 4 => .int
  | _ => .int
abbrev wsX30 : List Cond := u_ws RX3 TX3 6
theorem nmX3 : ∀ a, a < 6 → ∀ b, b < 6 → a ≠ b → (TX3 a).2.1 ≠ (TX3 b).2.1 := by decide +kernel
theorem tyX3_ok : ∀ k, k < 6 → parseFieldDescriptor (TX3 k).2.2.1 = some (tyX3 k) := by decide +kernel
abbrev cX3_init : ByteArray := prog_5_method_1_code
def yX3_init : MethodName := ⟨RX3, "<init>", "()V"⟩
abbrev cX3_copyFrom : ByteArray := prog_5_method_2_code
def yX3_copyFrom : MethodName := ⟨RX3, "copyFrom", "(LParrotSongs$Parrot;)V"⟩
abbrev cX3_hear : ByteArray := prog_5_method_3_code
def yX3_hear : MethodName := ⟨RX3, "hear", "(III)V"⟩
abbrev cX3_grow : ByteArray := prog_5_method_4_code
def yX3_grow : MethodName := ⟨RX3, "grow", "(III)V"⟩
abbrev cX3_find : ByteArray := prog_5_method_5_code
def yX3_find : MethodName := ⟨RX3, "find", "(II)I"⟩
abbrev cX3_weakest : ByteArray := prog_5_method_6_code
def yX3_weakest : MethodName := ⟨RX3, "weakest", "()I"⟩
abbrev cX3_remove : ByteArray := prog_5_method_7_code
def yX3_remove : MethodName := ⟨RX3, "remove", "(I)V"⟩
abbrev cX3_write : ByteArray := prog_5_method_8_code
def yX3_write : MethodName := ⟨RX3, "write", "(IIIII)V"⟩
abbrev cX3_sleep : ByteArray := prog_5_method_9_code
def yX3_sleep : MethodName := ⟨RX3, "sleep", "(I)I"⟩
abbrev cX3_nextBehind : ByteArray := prog_5_method_10_code
def yX3_nextBehind : MethodName := ⟨RX3, "nextBehind", "(I)I"⟩
abbrev cX3_strengthInAll : ByteArray := prog_5_method_11_code
def yX3_strengthInAll : MethodName := ⟨RX3, "strengthInAll", "()I"⟩
abbrev cX3_ofLink : ByteArray := prog_5_method_12_code
def yX3_ofLink : MethodName := ⟨RX3, "ofLink", "(II)I"⟩
def RX4 : String := "ParrotSongs$Reader"
def TX4 : u_T := fun k => match k with
  | 0 => ("ParrotSongs$Reader", "pad", "LParrotSongs$Pad;", true)
  | 1 => ("ParrotSongs$Reader", "at", "I", false)
  | 2 => ("ParrotSongs$Reader", "awaits", "Z", false)
  | 3 => ("ParrotSongs$Reader", "kind", "C", false)
  | 4 => ("ParrotSongs$Reader", "parrot", "I", false)
  | 5 => ("ParrotSongs$Reader", "song", "I", false)
  | 6 => ("ParrotSongs$Reader", "number", "I", false)
  | 7 => ("ParrotSongs$Reader", "bars", "[I", true)
  | _ => ("ParrotSongs$Reader", "barCount", "I", false)
def tyX4 : Nat → FieldType := fun k => match k with
  | 0 => .object "ParrotSongs$Pad"
  | 1 => .int
  | 2 => .boolean
  | 3 => .char
  | 4 => .int
  | 5 => .int
  | 6 => .int
  | 7 => .array .int
  | _ => .int
abbrev wsX40 : List Cond := u_ws RX4 TX4 9
theorem nmX4 : ∀ a, a < 9 → ∀ b, b < 9 → a ≠ b → (TX4 a).2.1 ≠ (TX4 b).2.1 := by decide +kernel
theorem tyX4_ok : ∀ k, k < 9 → parseFieldDescriptor (TX4 k).2.2.1 = some (tyX4 k) := by decide +kernel
abbrev cX4_init : ByteArray := prog_6_method_1_code
def yX4_init : MethodName := ⟨RX4, "<init>", "()V"⟩
abbrev cX4_start : ByteArray := prog_6_method_2_code
def yX4_start : MethodName := ⟨RX4, "start", "()V"⟩
abbrev cX4_findFault : ByteArray := prog_6_method_3_code
def yX4_findFault : MethodName := ⟨RX4, "findFault", "()I"⟩
abbrev cX4_readNext : ByteArray := prog_6_method_4_code
def yX4_readNext : MethodName := ⟨RX4, "readNext", "()Z"⟩
abbrev cX4_readOrder : ByteArray := prog_6_method_5_code
def yX4_readOrder : MethodName := ⟨RX4, "readOrder", "()Z"⟩
abbrev cX4_readBars : ByteArray := prog_6_method_6_code
def yX4_readBars : MethodName := ⟨RX4, "readBars", "()Z"⟩
abbrev cX4_readLesson : ByteArray := prog_6_method_7_code
def yX4_readLesson : MethodName := ⟨RX4, "readLesson", "()Z"⟩
abbrev cX4_readParrot : ByteArray := prog_6_method_8_code
def yX4_readParrot : MethodName := ⟨RX4, "readParrot", "()Z"⟩
abbrev cX4_readNumber : ByteArray := prog_6_method_9_code
def yX4_readNumber : MethodName := ⟨RX4, "readNumber", "()Z"⟩
abbrev cX4_isDigit : ByteArray := prog_6_method_10_code
def yX4_isDigit : MethodName := ⟨RX4, "isDigit", "()Z"⟩
abbrev cX4_takeDigit : ByteArray := prog_6_method_11_code
def yX4_takeDigit : MethodName := ⟨RX4, "takeDigit", "()I"⟩
abbrev cX4_take : ByteArray := prog_6_method_12_code
def yX4_take : MethodName := ⟨RX4, "take", "(C)Z"⟩
def RX5 : String := "ParrotSongs$Songbook"
def TX5 : u_T := fun k => match k with
  | 0 => ("ParrotSongs$Songbook", "bars", "[[I", true)
  | 1 => ("ParrotSongs$Songbook", "lengths", "[I", true)
  | 2 => ("ParrotSongs$Songbook", "lessons", "[I", true)
  | _ => ("ParrotSongs$Songbook", "count", "I", false)
def tyX5 : Nat → FieldType := fun k => match k with
  | 0 => .array (.array .int)
  | 1 => .array .int
  | 2 => .array .int
  | _ => .int
abbrev wsX50 : List Cond := u_ws RX5 TX5 4
theorem nmX5 : ∀ a, a < 4 → ∀ b, b < 4 → a ≠ b → (TX5 a).2.1 ≠ (TX5 b).2.1 := by decide +kernel
theorem tyX5_ok : ∀ k, k < 4 → parseFieldDescriptor (TX5 k).2.2.1 = some (tyX5 k) := by decide +kernel
abbrev cX5_init : ByteArray := prog_7_method_1_code
def yX5_init : MethodName := ⟨RX5, "<init>", "()V"⟩
abbrev cX5_copyFrom : ByteArray := prog_7_method_2_code
def yX5_copyFrom : MethodName := ⟨RX5, "copyFrom", "(LParrotSongs$Songbook;)V"⟩
abbrev cX5_add : ByteArray := prog_7_method_3_code
def yX5_add : MethodName := ⟨RX5, "add", "([II)I"⟩
abbrev cX5_has : ByteArray := prog_7_method_4_code
def yX5_has : MethodName := ⟨RX5, "has", "(I)Z"⟩
abbrev cX5_hasBar : ByteArray := prog_7_method_5_code
def yX5_hasBar : MethodName := ⟨RX5, "hasBar", "(II)Z"⟩
abbrev cX5_barAt : ByteArray := prog_7_method_6_code
def yX5_barAt : MethodName := ⟨RX5, "barAt", "(II)I"⟩
abbrev cX5_lengthOf : ByteArray := prog_7_method_7_code
def yX5_lengthOf : MethodName := ⟨RX5, "lengthOf", "(I)I"⟩
abbrev cX5_lastBar : ByteArray := prog_7_method_8_code
def yX5_lastBar : MethodName := ⟨RX5, "lastBar", "(I)I"⟩
abbrev cX5_unlikeBars : ByteArray := prog_7_method_9_code
def yX5_unlikeBars : MethodName := ⟨RX5, "unlikeBars", "(I)I"⟩
abbrev cX5_countLesson : ByteArray := prog_7_method_10_code
def yX5_countLesson : MethodName := ⟨RX5, "countLesson", "(I)V"⟩
abbrev cX5_lessonsWith : ByteArray := prog_7_method_11_code
def yX5_lessonsWith : MethodName := ⟨RX5, "lessonsWith", "(I)I"⟩
abbrev cX5_lessonsInAll : ByteArray := prog_7_method_12_code
def yX5_lessonsInAll : MethodName := ⟨RX5, "lessonsInAll", "()I"⟩
abbrev cX5_firstWrong : ByteArray := prog_7_method_13_code
def yX5_firstWrong : MethodName := ⟨RX5, "firstWrong", "(LParrotSongs$Parrot;I)I"⟩
abbrev cX5_isKnownBy : ByteArray := prog_7_method_14_code
def yX5_isKnownBy : MethodName := ⟨RX5, "isKnownBy", "(LParrotSongs$Parrot;I)Z"⟩
abbrev cX5_hundredths : ByteArray := prog_7_method_15_code
def yX5_hundredths : MethodName := ⟨RX5, "hundredths", "(LParrotSongs$Parrot;I)I"⟩
abbrev cX5_hundredthsInAll : ByteArray := prog_7_method_16_code
def yX5_hundredthsInAll : MethodName := ⟨RX5, "hundredthsInAll", "(LParrotSongs$Parrot;)I"⟩
abbrev cX5_knownBy : ByteArray := prog_7_method_17_code
def yX5_knownBy : MethodName := ⟨RX5, "knownBy", "(LParrotSongs$Parrot;)I"⟩
abbrev cX5_songsFrom : ByteArray := prog_7_method_18_code
def yX5_songsFrom : MethodName := ⟨RX5, "songsFrom", "(I)I"⟩
abbrev cX5_songsWithPair : ByteArray := prog_7_method_19_code
def yX5_songsWithPair : MethodName := ⟨RX5, "songsWithPair", "(II)I"⟩
abbrev cX5_hasPair : ByteArray := prog_7_method_20_code
def yX5_hasPair : MethodName := ⟨RX5, "hasPair", "(III)Z"⟩
abbrev cX5_sameAtEnd : ByteArray := prog_7_method_21_code
def yX5_sameAtEnd : MethodName := ⟨RX5, "sameAtEnd", "(II)I"⟩
def RX6 : String := "ParrotSongs"
def TX6 : u_T := fun k => match k with
  | 0 => ("ParrotSongs", "house", "LParrotSongs$House;", true)
  | 1 => ("ParrotSongs", "history", "LParrotSongs$History;", true)
  | 2 => ("ParrotSongs", "reader", "LParrotSongs$Reader;", true)
  | 3 => ("ParrotSongs", "slots", "[LParrotSongs$House;", true)
  | 4 => ("ParrotSongs", "saved", "[Z", true)
  | _ => ("ParrotSongs", "pupil", "LParrotSongs$Parrot;", true)
def tyX6 : Nat → FieldType := fun k => match k with
  | 0 => .object "ParrotSongs$House"
  | 1 => .object "ParrotSongs$History"
  | 2 => .object "ParrotSongs$Reader"
  | 3 => .array (.object "ParrotSongs$House")
  | 4 => .array .boolean
  | _ => .object "ParrotSongs$Parrot"
abbrev wsX60 : List Cond := u_ws RX6 TX6 6
theorem nmX6 : ∀ a, a < 6 → ∀ b, b < 6 → a ≠ b → (TX6 a).2.1 ≠ (TX6 b).2.1 := by decide +kernel
theorem tyX6_ok : ∀ k, k < 6 → parseFieldDescriptor (TX6 k).2.2.1 = some (tyX6 k) := by decide +kernel
abbrev cX6_init : ByteArray := prog_1_method_1_code
def yX6_init : MethodName := ⟨RX6, "<init>", "()V"⟩
abbrev cX6_set : ByteArray := prog_1_method_2_code
def yX6_set : MethodName := ⟨RX6, "set", "(II)I"⟩
abbrev cX6_parrot : ByteArray := prog_1_method_3_code
def yX6_parrot : MethodName := ⟨RX6, "parrot", "()I"⟩
abbrev cX6_lesson : ByteArray := prog_1_method_4_code
def yX6_lesson : MethodName := ⟨RX6, "lesson", "(III)I"⟩
abbrev cX6_hush : ByteArray := prog_1_method_5_code
def yX6_hush : MethodName := ⟨RX6, "hush", "(I)I"⟩
abbrev cX6_practise : ByteArray := prog_1_method_6_code
def yX6_practise : MethodName := ⟨RX6, "practise", "(II)I"⟩
abbrev cX6_night : ByteArray := prog_1_method_7_code
def yX6_night : MethodName := ⟨RX6, "night", "()I"⟩
abbrev cX6_ofSong : ByteArray := prog_1_method_8_code
def yX6_ofSong : MethodName := ⟨RX6, "ofSong", "(II)I"⟩
abbrev cX6_bar : ByteArray := prog_1_method_9_code
def yX6_bar : MethodName := ⟨RX6, "bar", "(II)I"⟩
abbrev cX6_of : ByteArray := prog_1_method_10_code
def yX6_of : MethodName := ⟨RX6, "of", "(II)I"⟩
abbrev cX6_link : ByteArray := prog_1_method_11_code
def yX6_link : MethodName := ⟨RX6, "link", "(III)I"⟩
abbrev cX6_sings : ByteArray := prog_1_method_12_code
def yX6_sings : MethodName := ⟨RX6, "sings", "(III)I"⟩
abbrev cX6_knows : ByteArray := prog_1_method_13_code
def yX6_knows : MethodName := ⟨RX6, "knows", "(II)I"⟩
abbrev cX6_mistake : ByteArray := prog_1_method_14_code
def yX6_mistake : MethodName := ⟨RX6, "mistake", "(III)I"⟩
abbrev cX6_rhymes : ByteArray := prog_1_method_15_code
def yX6_rhymes : MethodName := ⟨RX6, "rhymes", "(II)I"⟩
abbrev cX6_follows : ByteArray := prog_1_method_16_code
def yX6_follows : MethodName := ⟨RX6, "follows", "(II)I"⟩
abbrev cX6_count : ByteArray := prog_1_method_17_code
def yX6_count : MethodName := ⟨RX6, "count", "(I)I"⟩
abbrev cX6_lessonsFor : ByteArray := prog_1_method_18_code
def yX6_lessonsFor : MethodName := ⟨RX6, "lessonsFor", "(II)I"⟩
abbrev cX6_bestLesson : ByteArray := prog_1_method_19_code
def yX6_bestLesson : MethodName := ⟨RX6, "bestLesson", "(II)I"⟩
abbrev cX6_keeps : ByteArray := prog_1_method_20_code
def yX6_keeps : MethodName := ⟨RX6, "keeps", "(II)I"⟩
abbrev cX6_put : ByteArray := prog_1_method_21_code
def yX6_put : MethodName := ⟨RX6, "put", "(J)I"⟩
abbrev cX6_wipe : ByteArray := prog_1_method_22_code
def yX6_wipe : MethodName := ⟨RX6, "wipe", "()I"⟩
abbrev cX6_fault : ByteArray := prog_1_method_23_code
def yX6_fault : MethodName := ⟨RX6, "fault", "()I"⟩
abbrev cX6_carryOut : ByteArray := prog_1_method_24_code
def yX6_carryOut : MethodName := ⟨RX6, "carryOut", "()I"⟩
abbrev cX6_undo : ByteArray := prog_1_method_25_code
def yX6_undo : MethodName := ⟨RX6, "undo", "()I"⟩
abbrev cX6_save : ByteArray := prog_1_method_26_code
def yX6_save : MethodName := ⟨RX6, "save", "(I)I"⟩
abbrev cX6_restore : ByteArray := prog_1_method_27_code
def yX6_restore : MethodName := ⟨RX6, "restore", "(I)I"⟩
abbrev cX6_isError : ByteArray := prog_1_method_28_code
def yX6_isError : MethodName := ⟨RX6, "isError", "(I)Z"⟩
abbrev cX6_carryOrder : ByteArray := prog_1_method_29_code
def yX6_carryOrder : MethodName := ⟨RX6, "carryOrder", "()I"⟩
def RX7 : String := "ParrotSongsModel"
def TX7 : u_T := fun k => match k with
  | 0 => ("ParrotSongsModel", "s", "[I", true)
  | 1 => ("ParrotSongsModel", "spare", "[I", true)
  | 2 => ("ParrotSongsModel", "trial", "[I", true)
  | 3 => ("ParrotSongsModel", "before", "[I", true)
  | 4 => ("ParrotSongsModel", "saved", "[I", true)
  | 5 => ("ParrotSongsModel", "isSaved", "[Z", true)
  | 6 => ("ParrotSongsModel", "sung", "[I", true)
  | 7 => ("ParrotSongsModel", "read", "[I", true)
  | 8 => ("ParrotSongsModel", "pad", "[C", true)
  | 9 => ("ParrotSongsModel", "length", "I", false)
  | 10 => ("ParrotSongsModel", "states", "I", false)
  | 11 => ("ParrotSongsModel", "orders", "I", false)
  | _ => ("ParrotSongsModel", "at", "I", false)
def tyX7 : Nat → FieldType := fun k => match k with
  | 0 => .array .int
  | 1 => .array .int
  | 2 => .array .int
  | 3 => .array .int
  | 4 => .array .int
  | 5 => .array .boolean
  | 6 => .array .int
  | 7 => .array .int
  | 8 => .array .char
  | 9 => .int
  | 10 => .int
  | 11 => .int
  | _ => .int
abbrev wsX70 : List Cond := u_ws RX7 TX7 13
theorem nmX7 : ∀ a, a < 13 → ∀ b, b < 13 → a ≠ b → (TX7 a).2.1 ≠ (TX7 b).2.1 := by decide +kernel
theorem tyX7_ok : ∀ k, k < 13 → parseFieldDescriptor (TX7 k).2.2.1 = some (tyX7 k) := by decide +kernel
abbrev cX7_init : ByteArray := prog_9_method_1_code
def yX7_init : MethodName := ⟨RX7, "<init>", "()V"⟩
abbrev cX7_in : ByteArray := prog_9_method_2_code
def yX7_in : MethodName := ⟨RX7, "in", "(III)Z"⟩
abbrev cX7_n : ByteArray := prog_9_method_3_code
def yX7_n : MethodName := ⟨RX7, "n", "(I)I"⟩
abbrev cX7_p : ByteArray := prog_9_method_4_code
def yX7_p : MethodName := ⟨RX7, "p", "(I)I"⟩
abbrev cX7_l : ByteArray := prog_9_method_5_code
def yX7_l : MethodName := ⟨RX7, "l", "(II)I"⟩
abbrev cX7_isSong : ByteArray := prog_9_method_6_code
def yX7_isSong : MethodName := ⟨RX7, "isSong", "(I)Z"⟩
abbrev cX7_isParrot : ByteArray := prog_9_method_7_code
def yX7_isParrot : MethodName := ⟨RX7, "isParrot", "(I)Z"⟩
abbrev cX7_hold : ByteArray := prog_9_method_8_code
def yX7_hold : MethodName := ⟨RX7, "hold", "()V"⟩
abbrev cX7_recorded : ByteArray := prog_9_method_9_code
def yX7_recorded : MethodName := ⟨RX7, "recorded", "(I)I"⟩
abbrev cX7_keepTrial : ByteArray := prog_9_method_10_code
def yX7_keepTrial : MethodName := ⟨RX7, "keepTrial", "()V"⟩
abbrev cX7_putBack : ByteArray := prog_9_method_11_code
def yX7_putBack : MethodName := ⟨RX7, "putBack", "()V"⟩
abbrev cX7_takes : ByteArray := prog_9_method_12_code
def yX7_takes : MethodName := ⟨RX7, "takes", "(II)V"⟩
abbrev cX7_linkOf : ByteArray := prog_9_method_13_code
def yX7_linkOf : MethodName := ⟨RX7, "linkOf", "(II)I"⟩
abbrev cX7_weakest : ByteArray := prog_9_method_14_code
def yX7_weakest : MethodName := ⟨RX7, "weakest", "(I)I"⟩
abbrev cX7_grows : ByteArray := prog_9_method_15_code
def yX7_grows : MethodName := ⟨RX7, "grows", "(II)V"⟩
abbrev cX7_hears : ByteArray := prog_9_method_16_code
def yX7_hears : MethodName := ⟨RX7, "hears", "(II)V"⟩
abbrev cX7_isTired : ByteArray := prog_9_method_17_code
def yX7_isTired : MethodName := ⟨RX7, "isTired", "(I)Z"⟩
abbrev cX7_goesOn : ByteArray := prog_9_method_18_code
def yX7_goesOn : MethodName := ⟨RX7, "goesOn", "(II)I"⟩
abbrev cX7_right : ByteArray := prog_9_method_19_code
def yX7_right : MethodName := ⟨RX7, "right", "(II)I"⟩
abbrev cX7_hundredths : ByteArray := prog_9_method_20_code
def yX7_hundredths : MethodName := ⟨RX7, "hundredths", "(II)I"⟩
abbrev cX7_known : ByteArray := prog_9_method_21_code
def yX7_known : MethodName := ⟨RX7, "known", "(I)I"⟩
abbrev cX7_comes : ByteArray := prog_9_method_22_code
def yX7_comes : MethodName := ⟨RX7, "comes", "()I"⟩
abbrev cX7_song : ByteArray := prog_9_method_23_code
def yX7_song : MethodName := ⟨RX7, "song", "(II)I"⟩
abbrev cX7_teaches : ByteArray := prog_9_method_24_code
def yX7_teaches : MethodName := ⟨RX7, "teaches", "(III)I"⟩
abbrev cX7_hushes : ByteArray := prog_9_method_25_code
def yX7_hushes : MethodName := ⟨RX7, "hushes", "(I)I"⟩
abbrev cX7_practises : ByteArray := prog_9_method_26_code
def yX7_practises : MethodName := ⟨RX7, "practises", "(II)I"⟩
abbrev cX7_fades : ByteArray := prog_9_method_27_code
def yX7_fades : MethodName := ⟨RX7, "fades", "(I)I"⟩
abbrev cX7_nights : ByteArray := prog_9_method_28_code
def yX7_nights : MethodName := ⟨RX7, "nights", "()I"⟩
abbrev cX7_ends : ByteArray := prog_9_method_29_code
def yX7_ends : MethodName := ⟨RX7, "ends", "()I"⟩
abbrev cX7_set : ByteArray := prog_9_method_30_code
def yX7_set : MethodName := ⟨RX7, "set", "(II)I"⟩
abbrev cX7_parrot : ByteArray := prog_9_method_31_code
def yX7_parrot : MethodName := ⟨RX7, "parrot", "()I"⟩
abbrev cX7_lesson : ByteArray := prog_9_method_32_code
def yX7_lesson : MethodName := ⟨RX7, "lesson", "(III)I"⟩
abbrev cX7_hush : ByteArray := prog_9_method_33_code
def yX7_hush : MethodName := ⟨RX7, "hush", "(I)I"⟩
abbrev cX7_practise : ByteArray := prog_9_method_34_code
def yX7_practise : MethodName := ⟨RX7, "practise", "(II)I"⟩
abbrev cX7_night : ByteArray := prog_9_method_35_code
def yX7_night : MethodName := ⟨RX7, "night", "()I"⟩
abbrev cX7_unlike : ByteArray := prog_9_method_36_code
def yX7_unlike : MethodName := ⟨RX7, "unlike", "(I)I"⟩
abbrev cX7_knowers : ByteArray := prog_9_method_37_code
def yX7_knowers : MethodName := ⟨RX7, "knowers", "(I)I"⟩
abbrev cX7_ofSong : ByteArray := prog_9_method_38_code
def yX7_ofSong : MethodName := ⟨RX7, "ofSong", "(II)I"⟩
abbrev cX7_bar : ByteArray := prog_9_method_39_code
def yX7_bar : MethodName := ⟨RX7, "bar", "(II)I"⟩
abbrev cX7_strengths : ByteArray := prog_9_method_40_code
def yX7_strengths : MethodName := ⟨RX7, "strengths", "(I)I"⟩
abbrev cX7_songsOf : ByteArray := prog_9_method_41_code
def yX7_songsOf : MethodName := ⟨RX7, "songsOf", "(I)I"⟩
abbrev cX7_of : ByteArray := prog_9_method_42_code
def yX7_of : MethodName := ⟨RX7, "of", "(II)I"⟩
abbrev cX7_link : ByteArray := prog_9_method_43_code
def yX7_link : MethodName := ⟨RX7, "link", "(III)I"⟩
abbrev cX7_sings : ByteArray := prog_9_method_44_code
def yX7_sings : MethodName := ⟨RX7, "sings", "(III)I"⟩
abbrev cX7_knows : ByteArray := prog_9_method_45_code
def yX7_knows : MethodName := ⟨RX7, "knows", "(II)I"⟩
abbrev cX7_songsWith : ByteArray := prog_9_method_46_code
def yX7_songsWith : MethodName := ⟨RX7, "songsWith", "(II)I"⟩
abbrev cX7_mistake : ByteArray := prog_9_method_47_code
def yX7_mistake : MethodName := ⟨RX7, "mistake", "(III)I"⟩
abbrev cX7_rhymes : ByteArray := prog_9_method_48_code
def yX7_rhymes : MethodName := ⟨RX7, "rhymes", "(II)I"⟩
abbrev cX7_follows : ByteArray := prog_9_method_49_code
def yX7_follows : MethodName := ⟨RX7, "follows", "(II)I"⟩
abbrev cX7_ofParrots : ByteArray := prog_9_method_50_code
def yX7_ofParrots : MethodName := ⟨RX7, "ofParrots", "(I)I"⟩
abbrev cX7_count : ByteArray := prog_9_method_51_code
def yX7_count : MethodName := ⟨RX7, "count", "(I)I"⟩
abbrev cX7_hearsAll : ByteArray := prog_9_method_52_code
def yX7_hearsAll : MethodName := ⟨RX7, "hearsAll", "(II)V"⟩
abbrev cX7_lessonsFor : ByteArray := prog_9_method_53_code
def yX7_lessonsFor : MethodName := ⟨RX7, "lessonsFor", "(II)I"⟩
abbrev cX7_bestLesson : ByteArray := prog_9_method_54_code
def yX7_bestLesson : MethodName := ⟨RX7, "bestLesson", "(II)I"⟩
abbrev cX7_keeps : ByteArray := prog_9_method_55_code
def yX7_keeps : MethodName := ⟨RX7, "keeps", "(II)I"⟩
abbrev cX7_isSign : ByteArray := prog_9_method_56_code
def yX7_isSign : MethodName := ⟨RX7, "isSign", "(CC)Z"⟩
abbrev cX7_accepts : ByteArray := prog_9_method_57_code
def yX7_accepts : MethodName := ⟨RX7, "accepts", "(C)Z"⟩
abbrev cX7_digit : ByteArray := prog_9_method_58_code
def yX7_digit : MethodName := ⟨RX7, "digit", "(I)Z"⟩
abbrev cX7_number : ByteArray := prog_9_method_59_code
def yX7_number : MethodName := ⟨RX7, "number", "(I)Z"⟩
abbrev cX7_letters : ByteArray := prog_9_method_60_code
def yX7_letters : MethodName := ⟨RX7, "letters", "()Z"⟩
abbrev cX7_readsOrder : ByteArray := prog_9_method_61_code
def yX7_readsOrder : MethodName := ⟨RX7, "readsOrder", "()Z"⟩
abbrev cX7_faultOf : ByteArray := prog_9_method_62_code
def yX7_faultOf : MethodName := ⟨RX7, "faultOf", "()I"⟩
abbrev cX7_does : ByteArray := prog_9_method_63_code
def yX7_does : MethodName := ⟨RX7, "does", "(I)I"⟩
abbrev cX7_put : ByteArray := prog_9_method_64_code
def yX7_put : MethodName := ⟨RX7, "put", "(J)I"⟩
abbrev cX7_wipe : ByteArray := prog_9_method_65_code
def yX7_wipe : MethodName := ⟨RX7, "wipe", "()I"⟩
abbrev cX7_fault : ByteArray := prog_9_method_66_code
def yX7_fault : MethodName := ⟨RX7, "fault", "()I"⟩
abbrev cX7_carryOut : ByteArray := prog_9_method_67_code
def yX7_carryOut : MethodName := ⟨RX7, "carryOut", "()I"⟩
abbrev cX7_undo : ByteArray := prog_9_method_68_code
def yX7_undo : MethodName := ⟨RX7, "undo", "()I"⟩
abbrev cX7_save : ByteArray := prog_9_method_69_code
def yX7_save : MethodName := ⟨RX7, "save", "(I)I"⟩
abbrev cX7_restore : ByteArray := prog_9_method_70_code
def yX7_restore : MethodName := ⟨RX7, "restore", "(I)I"⟩
def RJ6 : String := "java/lang/Integer"
def TJ6 : u_T := fun k => match k with
  | _ => ("", "", "", false)
def tyJ6 : Nat → FieldType := fun k => match k with
  | _ => .int
abbrev cJ6_bitCount_0f7a4 : ByteArray := prog_10_method_49_code
def yJ6_bitCount_0f7a4 : MethodName := ⟨RJ6, "bitCount", "(I)I"⟩
def RJ9 : String := "java/lang/Math"
def TJ9 : u_T := fun k => match k with
  | _ => ("", "", "", false)
def tyJ9 : Nat → FieldType := fun k => match k with
  | _ => .int
abbrev cJ9_max_7cf53 : ByteArray := prog_11_method_65_code
def yJ9_max_7cf53 : MethodName := ⟨RJ9, "max", "(II)I"⟩
abbrev cJ9_min_7cf53 : ByteArray := prog_11_method_69_code
def yJ9_min_7cf53 : MethodName := ⟨RJ9, "min", "(II)I"⟩
def RJ10 : String := "java/lang/System"
def TJ10 : u_T := fun k => match k with
  | _ => ("", "", "", false)
def tyJ10 : Nat → FieldType := fun k => match k with
  | _ => .int
def RL : String := "ParrotSongsLaw"
abbrev cL_law : ByteArray := code
def yL_law : MethodName := ⟨RL, "law", "([I)Z"⟩
abbrev vwCl : List vw_C := [(RX0, TX0, 3), (RX1, TX1, 6), (RX2, TX2, 2), (RX3, TX3, 6), (RX4, TX4, 9), (RX5, TX5, 4), (RX6, TX6, 6), (RX7, TX7, 13)]
end
section
/-- a private method of a class that the tables say can be made, by its rows of tables_1 -/
def lw_okq (q : MethodName × Nat) : Prop := (q.1.cls ≠ "java/lang/invoke/MethodHandle" ∧ q.1.cls ≠ "java/lang/invoke/VarHandle") ∧ Cond.instantiable q.1.cls q.2 ∈ tables_1 ∧ Cond.privateMethod q.1 ∈ tables_1 ∧ Cond.instanceMethod q.1 ∈ tables_1
theorem lw_p0 : lw_okq (⟨"ParrotSongs$History", "record", "()V"⟩, 3) := ⟨⟨by decide +kernel, by decide +kernel⟩, List.mem_of_getElem? (i := 116) (by decide +kernel), List.mem_of_getElem? (i := 252) (by decide +kernel), List.mem_of_getElem? (i := 253) (by decide +kernel)⟩
theorem lw_p1 : lw_okq (⟨"ParrotSongs$History", "dropOldest", "()V"⟩, 3) := ⟨⟨by decide +kernel, by decide +kernel⟩, List.mem_of_getElem? (i := 116) (by decide +kernel), List.mem_of_getElem? (i := 256) (by decide +kernel), List.mem_of_getElem? (i := 257) (by decide +kernel)⟩
theorem lw_p2 : lw_okq (⟨"ParrotSongs$Parrot", "grow", "(III)V"⟩, 6) := ⟨⟨by decide +kernel, by decide +kernel⟩, List.mem_of_getElem? (i := 56) (by decide +kernel), List.mem_of_getElem? (i := 306) (by decide +kernel), List.mem_of_getElem? (i := 307) (by decide +kernel)⟩
theorem lw_p3 : lw_okq (⟨"ParrotSongs$Parrot", "find", "(II)I"⟩, 6) := ⟨⟨by decide +kernel, by decide +kernel⟩, List.mem_of_getElem? (i := 56) (by decide +kernel), List.mem_of_getElem? (i := 310) (by decide +kernel), List.mem_of_getElem? (i := 311) (by decide +kernel)⟩
theorem lw_p4 : lw_okq (⟨"ParrotSongs$Parrot", "remove", "(I)V"⟩, 6) := ⟨⟨by decide +kernel, by decide +kernel⟩, List.mem_of_getElem? (i := 56) (by decide +kernel), List.mem_of_getElem? (i := 317) (by decide +kernel), List.mem_of_getElem? (i := 318) (by decide +kernel)⟩
theorem lw_p5 : lw_okq (⟨"ParrotSongs$Parrot", "write", "(IIIII)V"⟩, 6) := ⟨⟨by decide +kernel, by decide +kernel⟩, List.mem_of_getElem? (i := 56) (by decide +kernel), List.mem_of_getElem? (i := 321) (by decide +kernel), List.mem_of_getElem? (i := 322) (by decide +kernel)⟩
theorem lw_p6 : lw_okq (⟨"ParrotSongs$Parrot", "weakest", "()I"⟩, 6) := ⟨⟨by decide +kernel, by decide +kernel⟩, List.mem_of_getElem? (i := 56) (by decide +kernel), List.mem_of_getElem? (i := 325) (by decide +kernel), List.mem_of_getElem? (i := 326) (by decide +kernel)⟩
theorem lw_p7 : lw_okq (⟨"ParrotSongs$House", "findSung", "(LParrotSongs$Parrot;I)I"⟩, 6) := ⟨⟨by decide +kernel, by decide +kernel⟩, List.mem_of_getElem? (i := 21) (by decide +kernel), List.mem_of_getElem? (i := 349) (by decide +kernel), List.mem_of_getElem? (i := 350) (by decide +kernel)⟩
theorem lw_p8 : lw_okq (⟨"ParrotSongs$House", "singSungTo", "(LParrotSongs$Parrot;I)V"⟩, 6) := ⟨⟨by decide +kernel, by decide +kernel⟩, List.mem_of_getElem? (i := 21) (by decide +kernel), List.mem_of_getElem? (i := 357) (by decide +kernel), List.mem_of_getElem? (i := 358) (by decide +kernel)⟩
theorem lw_p9 : lw_okq (⟨"ParrotSongs$Songbook", "hasPair", "(III)Z"⟩, 4) := ⟨⟨by decide +kernel, by decide +kernel⟩, List.mem_of_getElem? (i := 27) (by decide +kernel), List.mem_of_getElem? (i := 462) (by decide +kernel), List.mem_of_getElem? (i := 463) (by decide +kernel)⟩
theorem lw_p10 : lw_okq (⟨"ParrotSongs$Reader", "readOrder", "()Z"⟩, 9) := ⟨⟨by decide +kernel, by decide +kernel⟩, List.mem_of_getElem? (i := 136) (by decide +kernel), List.mem_of_getElem? (i := 565) (by decide +kernel), List.mem_of_getElem? (i := 566) (by decide +kernel)⟩
theorem lw_p11 : lw_okq (⟨"ParrotSongs$Reader", "readBars", "()Z"⟩, 9) := ⟨⟨by decide +kernel, by decide +kernel⟩, List.mem_of_getElem? (i := 136) (by decide +kernel), List.mem_of_getElem? (i := 573) (by decide +kernel), List.mem_of_getElem? (i := 574) (by decide +kernel)⟩
theorem lw_p12 : lw_okq (⟨"ParrotSongs$Reader", "readLesson", "()Z"⟩, 9) := ⟨⟨by decide +kernel, by decide +kernel⟩, List.mem_of_getElem? (i := 136) (by decide +kernel), List.mem_of_getElem? (i := 577) (by decide +kernel), List.mem_of_getElem? (i := 578) (by decide +kernel)⟩
theorem lw_p13 : lw_okq (⟨"ParrotSongs$Reader", "readParrot", "()Z"⟩, 9) := ⟨⟨by decide +kernel, by decide +kernel⟩, List.mem_of_getElem? (i := 136) (by decide +kernel), List.mem_of_getElem? (i := 581) (by decide +kernel), List.mem_of_getElem? (i := 582) (by decide +kernel)⟩
theorem lw_p14 : lw_okq (⟨"ParrotSongs$Reader", "isDigit", "()Z"⟩, 9) := ⟨⟨by decide +kernel, by decide +kernel⟩, List.mem_of_getElem? (i := 136) (by decide +kernel), List.mem_of_getElem? (i := 585) (by decide +kernel), List.mem_of_getElem? (i := 586) (by decide +kernel)⟩
theorem lw_p15 : lw_okq (⟨"ParrotSongs$Reader", "takeDigit", "()I"⟩, 9) := ⟨⟨by decide +kernel, by decide +kernel⟩, List.mem_of_getElem? (i := 136) (by decide +kernel), List.mem_of_getElem? (i := 589) (by decide +kernel), List.mem_of_getElem? (i := 590) (by decide +kernel)⟩
def lw_privs_1 : List (MethodName × Nat) := [(⟨"ParrotSongs$History", "record", "()V"⟩, 3), (⟨"ParrotSongs$History", "dropOldest", "()V"⟩, 3), (⟨"ParrotSongs$Parrot", "grow", "(III)V"⟩, 6), (⟨"ParrotSongs$Parrot", "find", "(II)I"⟩, 6), (⟨"ParrotSongs$Parrot", "remove", "(I)V"⟩, 6), (⟨"ParrotSongs$Parrot", "write", "(IIIII)V"⟩, 6), (⟨"ParrotSongs$Parrot", "weakest", "()I"⟩, 6), (⟨"ParrotSongs$House", "findSung", "(LParrotSongs$Parrot;I)I"⟩, 6), (⟨"ParrotSongs$House", "singSungTo", "(LParrotSongs$Parrot;I)V"⟩, 6), (⟨"ParrotSongs$Songbook", "hasPair", "(III)Z"⟩, 4), (⟨"ParrotSongs$Reader", "readOrder", "()Z"⟩, 9), (⟨"ParrotSongs$Reader", "readBars", "()Z"⟩, 9), (⟨"ParrotSongs$Reader", "readLesson", "()Z"⟩, 9), (⟨"ParrotSongs$Reader", "readParrot", "()Z"⟩, 9), (⟨"ParrotSongs$Reader", "isDigit", "()Z"⟩, 9), (⟨"ParrotSongs$Reader", "takeDigit", "()I"⟩, 9)]
theorem lw_r1 : ∀ q ∈ lw_privs_1, lw_okq q := List.forall_mem_cons.mpr ⟨lw_p0, List.forall_mem_cons.mpr ⟨lw_p1, List.forall_mem_cons.mpr ⟨lw_p2, List.forall_mem_cons.mpr ⟨lw_p3, List.forall_mem_cons.mpr ⟨lw_p4, List.forall_mem_cons.mpr ⟨lw_p5, List.forall_mem_cons.mpr ⟨lw_p6, List.forall_mem_cons.mpr ⟨lw_p7, List.forall_mem_cons.mpr ⟨lw_p8, List.forall_mem_cons.mpr ⟨lw_p9, List.forall_mem_cons.mpr ⟨lw_p10, List.forall_mem_cons.mpr ⟨lw_p11, List.forall_mem_cons.mpr ⟨lw_p12, List.forall_mem_cons.mpr ⟨lw_p13, List.forall_mem_cons.mpr ⟨lw_p14, List.forall_mem_cons.mpr ⟨lw_p15, fun _ h => absurd h List.not_mem_nil⟩⟩⟩⟩⟩⟩⟩⟩⟩⟩⟩⟩⟩⟩⟩⟩
theorem lw_p16 : lw_okq (⟨"ParrotSongs$Reader", "take", "(C)Z"⟩, 9) := ⟨⟨by decide +kernel, by decide +kernel⟩, List.mem_of_getElem? (i := 136) (by decide +kernel), List.mem_of_getElem? (i := 593) (by decide +kernel), List.mem_of_getElem? (i := 594) (by decide +kernel)⟩
theorem lw_p17 : lw_okq (⟨"ParrotSongs$Reader", "readNumber", "()Z"⟩, 9) := ⟨⟨by decide +kernel, by decide +kernel⟩, List.mem_of_getElem? (i := 136) (by decide +kernel), List.mem_of_getElem? (i := 597) (by decide +kernel), List.mem_of_getElem? (i := 598) (by decide +kernel)⟩
theorem lw_p18 : lw_okq (⟨"ParrotSongs", "carryOrder", "()I"⟩, 6) := ⟨⟨by decide +kernel, by decide +kernel⟩, List.mem_of_getElem? (i := 13) (by decide +kernel), List.mem_of_getElem? (i := 607) (by decide +kernel), List.mem_of_getElem? (i := 608) (by decide +kernel)⟩
theorem lw_p19 : lw_okq (⟨"ParrotSongsModel", "hold", "()V"⟩, 13) := ⟨⟨by decide +kernel, by decide +kernel⟩, List.mem_of_getElem? (i := 636) (by decide +kernel), List.mem_of_getElem? (i := 689) (by decide +kernel), List.mem_of_getElem? (i := 690) (by decide +kernel)⟩
theorem lw_p20 : lw_okq (⟨"ParrotSongsModel", "recorded", "(I)I"⟩, 13) := ⟨⟨by decide +kernel, by decide +kernel⟩, List.mem_of_getElem? (i := 636) (by decide +kernel), List.mem_of_getElem? (i := 693) (by decide +kernel), List.mem_of_getElem? (i := 694) (by decide +kernel)⟩
theorem lw_p21 : lw_okq (⟨"ParrotSongsModel", "comes", "()I"⟩, 13) := ⟨⟨by decide +kernel, by decide +kernel⟩, List.mem_of_getElem? (i := 636) (by decide +kernel), List.mem_of_getElem? (i := 701) (by decide +kernel), List.mem_of_getElem? (i := 702) (by decide +kernel)⟩
theorem lw_p22 : lw_okq (⟨"ParrotSongsModel", "teaches", "(III)I"⟩, 13) := ⟨⟨by decide +kernel, by decide +kernel⟩, List.mem_of_getElem? (i := 636) (by decide +kernel), List.mem_of_getElem? (i := 712) (by decide +kernel), List.mem_of_getElem? (i := 713) (by decide +kernel)⟩
theorem lw_p23 : lw_okq (⟨"ParrotSongsModel", "isParrot", "(I)Z"⟩, 13) := ⟨⟨by decide +kernel, by decide +kernel⟩, List.mem_of_getElem? (i := 636) (by decide +kernel), List.mem_of_getElem? (i := 716) (by decide +kernel), List.mem_of_getElem? (i := 717) (by decide +kernel)⟩
theorem lw_p24 : lw_okq (⟨"ParrotSongsModel", "isSong", "(I)Z"⟩, 13) := ⟨⟨by decide +kernel, by decide +kernel⟩, List.mem_of_getElem? (i := 636) (by decide +kernel), List.mem_of_getElem? (i := 720) (by decide +kernel), List.mem_of_getElem? (i := 721) (by decide +kernel)⟩
theorem lw_p25 : lw_okq (⟨"ParrotSongsModel", "isTired", "(I)Z"⟩, 13) := ⟨⟨by decide +kernel, by decide +kernel⟩, List.mem_of_getElem? (i := 636) (by decide +kernel), List.mem_of_getElem? (i := 727) (by decide +kernel), List.mem_of_getElem? (i := 728) (by decide +kernel)⟩
theorem lw_p26 : lw_okq (⟨"ParrotSongsModel", "hears", "(II)V"⟩, 13) := ⟨⟨by decide +kernel, by decide +kernel⟩, List.mem_of_getElem? (i := 636) (by decide +kernel), List.mem_of_getElem? (i := 731) (by decide +kernel), List.mem_of_getElem? (i := 732) (by decide +kernel)⟩
theorem lw_p27 : lw_okq (⟨"ParrotSongsModel", "grows", "(II)V"⟩, 13) := ⟨⟨by decide +kernel, by decide +kernel⟩, List.mem_of_getElem? (i := 636) (by decide +kernel), List.mem_of_getElem? (i := 735) (by decide +kernel), List.mem_of_getElem? (i := 736) (by decide +kernel)⟩
theorem lw_p28 : lw_okq (⟨"ParrotSongsModel", "linkOf", "(II)I"⟩, 13) := ⟨⟨by decide +kernel, by decide +kernel⟩, List.mem_of_getElem? (i := 636) (by decide +kernel), List.mem_of_getElem? (i := 739) (by decide +kernel), List.mem_of_getElem? (i := 740) (by decide +kernel)⟩
theorem lw_p29 : lw_okq (⟨"ParrotSongsModel", "takes", "(II)V"⟩, 13) := ⟨⟨by decide +kernel, by decide +kernel⟩, List.mem_of_getElem? (i := 636) (by decide +kernel), List.mem_of_getElem? (i := 746) (by decide +kernel), List.mem_of_getElem? (i := 747) (by decide +kernel)⟩
theorem lw_p30 : lw_okq (⟨"ParrotSongsModel", "weakest", "(I)I"⟩, 13) := ⟨⟨by decide +kernel, by decide +kernel⟩, List.mem_of_getElem? (i := 636) (by decide +kernel), List.mem_of_getElem? (i := 750) (by decide +kernel), List.mem_of_getElem? (i := 751) (by decide +kernel)⟩
theorem lw_p31 : lw_okq (⟨"ParrotSongsModel", "hushes", "(I)I"⟩, 13) := ⟨⟨by decide +kernel, by decide +kernel⟩, List.mem_of_getElem? (i := 636) (by decide +kernel), List.mem_of_getElem? (i := 758) (by decide +kernel), List.mem_of_getElem? (i := 759) (by decide +kernel)⟩
def lw_privs_2 : List (MethodName × Nat) := [(⟨"ParrotSongs$Reader", "take", "(C)Z"⟩, 9), (⟨"ParrotSongs$Reader", "readNumber", "()Z"⟩, 9), (⟨"ParrotSongs", "carryOrder", "()I"⟩, 6), (⟨"ParrotSongsModel", "hold", "()V"⟩, 13), (⟨"ParrotSongsModel", "recorded", "(I)I"⟩, 13), (⟨"ParrotSongsModel", "comes", "()I"⟩, 13), (⟨"ParrotSongsModel", "teaches", "(III)I"⟩, 13), (⟨"ParrotSongsModel", "isParrot", "(I)Z"⟩, 13), (⟨"ParrotSongsModel", "isSong", "(I)Z"⟩, 13), (⟨"ParrotSongsModel", "isTired", "(I)Z"⟩, 13), (⟨"ParrotSongsModel", "hears", "(II)V"⟩, 13), (⟨"ParrotSongsModel", "grows", "(II)V"⟩, 13), (⟨"ParrotSongsModel", "linkOf", "(II)I"⟩, 13), (⟨"ParrotSongsModel", "takes", "(II)V"⟩, 13), (⟨"ParrotSongsModel", "weakest", "(I)I"⟩, 13), (⟨"ParrotSongsModel", "hushes", "(I)I"⟩, 13)]
theorem lw_r2 : ∀ q ∈ lw_privs_2, lw_okq q := List.forall_mem_cons.mpr ⟨lw_p16, List.forall_mem_cons.mpr ⟨lw_p17, List.forall_mem_cons.mpr ⟨lw_p18, List.forall_mem_cons.mpr ⟨lw_p19, List.forall_mem_cons.mpr ⟨lw_p20, List.forall_mem_cons.mpr ⟨lw_p21, List.forall_mem_cons.mpr ⟨lw_p22, List.forall_mem_cons.mpr ⟨lw_p23, List.forall_mem_cons.mpr ⟨lw_p24, List.forall_mem_cons.mpr ⟨lw_p25, List.forall_mem_cons.mpr ⟨lw_p26, List.forall_mem_cons.mpr ⟨lw_p27, List.forall_mem_cons.mpr ⟨lw_p28, List.forall_mem_cons.mpr ⟨lw_p29, List.forall_mem_cons.mpr ⟨lw_p30, List.forall_mem_cons.mpr ⟨lw_p31, fun _ h => absurd h List.not_mem_nil⟩⟩⟩⟩⟩⟩⟩⟩⟩⟩⟩⟩⟩⟩⟩⟩
theorem lw_p32 : lw_okq (⟨"ParrotSongsModel", "practises", "(II)I"⟩, 13) := ⟨⟨by decide +kernel, by decide +kernel⟩, List.mem_of_getElem? (i := 636) (by decide +kernel), List.mem_of_getElem? (i := 766) (by decide +kernel), List.mem_of_getElem? (i := 767) (by decide +kernel)⟩
theorem lw_p33 : lw_okq (⟨"ParrotSongsModel", "goesOn", "(II)I"⟩, 13) := ⟨⟨by decide +kernel, by decide +kernel⟩, List.mem_of_getElem? (i := 636) (by decide +kernel), List.mem_of_getElem? (i := 770) (by decide +kernel), List.mem_of_getElem? (i := 771) (by decide +kernel)⟩
theorem lw_p34 : lw_okq (⟨"ParrotSongsModel", "ends", "()I"⟩, 13) := ⟨⟨by decide +kernel, by decide +kernel⟩, List.mem_of_getElem? (i := 636) (by decide +kernel), List.mem_of_getElem? (i := 778) (by decide +kernel), List.mem_of_getElem? (i := 779) (by decide +kernel)⟩
theorem lw_p35 : lw_okq (⟨"ParrotSongsModel", "nights", "()I"⟩, 13) := ⟨⟨by decide +kernel, by decide +kernel⟩, List.mem_of_getElem? (i := 636) (by decide +kernel), List.mem_of_getElem? (i := 782) (by decide +kernel), List.mem_of_getElem? (i := 783) (by decide +kernel)⟩
theorem lw_p36 : lw_okq (⟨"ParrotSongsModel", "fades", "(I)I"⟩, 13) := ⟨⟨by decide +kernel, by decide +kernel⟩, List.mem_of_getElem? (i := 636) (by decide +kernel), List.mem_of_getElem? (i := 786) (by decide +kernel), List.mem_of_getElem? (i := 787) (by decide +kernel)⟩
theorem lw_p37 : lw_okq (⟨"ParrotSongsModel", "unlike", "(I)I"⟩, 13) := ⟨⟨by decide +kernel, by decide +kernel⟩, List.mem_of_getElem? (i := 636) (by decide +kernel), List.mem_of_getElem? (i := 794) (by decide +kernel), List.mem_of_getElem? (i := 795) (by decide +kernel)⟩
theorem lw_p38 : lw_okq (⟨"ParrotSongsModel", "knowers", "(I)I"⟩, 13) := ⟨⟨by decide +kernel, by decide +kernel⟩, List.mem_of_getElem? (i := 636) (by decide +kernel), List.mem_of_getElem? (i := 798) (by decide +kernel), List.mem_of_getElem? (i := 799) (by decide +kernel)⟩
theorem lw_p39 : lw_okq (⟨"ParrotSongsModel", "hundredths", "(II)I"⟩, 13) := ⟨⟨by decide +kernel, by decide +kernel⟩, List.mem_of_getElem? (i := 636) (by decide +kernel), List.mem_of_getElem? (i := 802) (by decide +kernel), List.mem_of_getElem? (i := 803) (by decide +kernel)⟩
theorem lw_p40 : lw_okq (⟨"ParrotSongsModel", "right", "(II)I"⟩, 13) := ⟨⟨by decide +kernel, by decide +kernel⟩, List.mem_of_getElem? (i := 636) (by decide +kernel), List.mem_of_getElem? (i := 806) (by decide +kernel), List.mem_of_getElem? (i := 807) (by decide +kernel)⟩
theorem lw_p41 : lw_okq (⟨"ParrotSongsModel", "strengths", "(I)I"⟩, 13) := ⟨⟨by decide +kernel, by decide +kernel⟩, List.mem_of_getElem? (i := 636) (by decide +kernel), List.mem_of_getElem? (i := 818) (by decide +kernel), List.mem_of_getElem? (i := 819) (by decide +kernel)⟩
theorem lw_p42 : lw_okq (⟨"ParrotSongsModel", "songsOf", "(I)I"⟩, 13) := ⟨⟨by decide +kernel, by decide +kernel⟩, List.mem_of_getElem? (i := 636) (by decide +kernel), List.mem_of_getElem? (i := 822) (by decide +kernel), List.mem_of_getElem? (i := 823) (by decide +kernel)⟩
theorem lw_p43 : lw_okq (⟨"ParrotSongsModel", "songsWith", "(II)I"⟩, 13) := ⟨⟨by decide +kernel, by decide +kernel⟩, List.mem_of_getElem? (i := 636) (by decide +kernel), List.mem_of_getElem? (i := 842) (by decide +kernel), List.mem_of_getElem? (i := 843) (by decide +kernel)⟩
theorem lw_p44 : lw_okq (⟨"ParrotSongsModel", "ofParrots", "(I)I"⟩, 13) := ⟨⟨by decide +kernel, by decide +kernel⟩, List.mem_of_getElem? (i := 636) (by decide +kernel), List.mem_of_getElem? (i := 858) (by decide +kernel), List.mem_of_getElem? (i := 859) (by decide +kernel)⟩
theorem lw_p45 : lw_okq (⟨"ParrotSongsModel", "keepTrial", "()V"⟩, 13) := ⟨⟨by decide +kernel, by decide +kernel⟩, List.mem_of_getElem? (i := 636) (by decide +kernel), List.mem_of_getElem? (i := 866) (by decide +kernel), List.mem_of_getElem? (i := 867) (by decide +kernel)⟩
theorem lw_p46 : lw_okq (⟨"ParrotSongsModel", "hearsAll", "(II)V"⟩, 13) := ⟨⟨by decide +kernel, by decide +kernel⟩, List.mem_of_getElem? (i := 636) (by decide +kernel), List.mem_of_getElem? (i := 870) (by decide +kernel), List.mem_of_getElem? (i := 871) (by decide +kernel)⟩
theorem lw_p47 : lw_okq (⟨"ParrotSongsModel", "putBack", "()V"⟩, 13) := ⟨⟨by decide +kernel, by decide +kernel⟩, List.mem_of_getElem? (i := 636) (by decide +kernel), List.mem_of_getElem? (i := 874) (by decide +kernel), List.mem_of_getElem? (i := 875) (by decide +kernel)⟩
def lw_privs_3 : List (MethodName × Nat) := [(⟨"ParrotSongsModel", "practises", "(II)I"⟩, 13), (⟨"ParrotSongsModel", "goesOn", "(II)I"⟩, 13), (⟨"ParrotSongsModel", "ends", "()I"⟩, 13), (⟨"ParrotSongsModel", "nights", "()I"⟩, 13), (⟨"ParrotSongsModel", "fades", "(I)I"⟩, 13), (⟨"ParrotSongsModel", "unlike", "(I)I"⟩, 13), (⟨"ParrotSongsModel", "knowers", "(I)I"⟩, 13), (⟨"ParrotSongsModel", "hundredths", "(II)I"⟩, 13), (⟨"ParrotSongsModel", "right", "(II)I"⟩, 13), (⟨"ParrotSongsModel", "strengths", "(I)I"⟩, 13), (⟨"ParrotSongsModel", "songsOf", "(I)I"⟩, 13), (⟨"ParrotSongsModel", "songsWith", "(II)I"⟩, 13), (⟨"ParrotSongsModel", "ofParrots", "(I)I"⟩, 13), (⟨"ParrotSongsModel", "keepTrial", "()V"⟩, 13), (⟨"ParrotSongsModel", "hearsAll", "(II)V"⟩, 13), (⟨"ParrotSongsModel", "putBack", "()V"⟩, 13)]
theorem lw_r3 : ∀ q ∈ lw_privs_3, lw_okq q := List.forall_mem_cons.mpr ⟨lw_p32, List.forall_mem_cons.mpr ⟨lw_p33, List.forall_mem_cons.mpr ⟨lw_p34, List.forall_mem_cons.mpr ⟨lw_p35, List.forall_mem_cons.mpr ⟨lw_p36, List.forall_mem_cons.mpr ⟨lw_p37, List.forall_mem_cons.mpr ⟨lw_p38, List.forall_mem_cons.mpr ⟨lw_p39, List.forall_mem_cons.mpr ⟨lw_p40, List.forall_mem_cons.mpr ⟨lw_p41, List.forall_mem_cons.mpr ⟨lw_p42, List.forall_mem_cons.mpr ⟨lw_p43, List.forall_mem_cons.mpr ⟨lw_p44, List.forall_mem_cons.mpr ⟨lw_p45, List.forall_mem_cons.mpr ⟨lw_p46, List.forall_mem_cons.mpr ⟨lw_p47, fun _ h => absurd h List.not_mem_nil⟩⟩⟩⟩⟩⟩⟩⟩⟩⟩⟩⟩⟩⟩⟩⟩
theorem lw_p48 : lw_okq (⟨"ParrotSongsModel", "known", "(I)I"⟩, 13) := ⟨⟨by decide +kernel, by decide +kernel⟩, List.mem_of_getElem? (i := 636) (by decide +kernel), List.mem_of_getElem? (i := 882) (by decide +kernel), List.mem_of_getElem? (i := 883) (by decide +kernel)⟩
theorem lw_p49 : lw_okq (⟨"ParrotSongsModel", "faultOf", "()I"⟩, 13) := ⟨⟨by decide +kernel, by decide +kernel⟩, List.mem_of_getElem? (i := 636) (by decide +kernel), List.mem_of_getElem? (i := 905) (by decide +kernel), List.mem_of_getElem? (i := 906) (by decide +kernel)⟩
theorem lw_p50 : lw_okq (⟨"ParrotSongsModel", "readsOrder", "()Z"⟩, 13) := ⟨⟨by decide +kernel, by decide +kernel⟩, List.mem_of_getElem? (i := 636) (by decide +kernel), List.mem_of_getElem? (i := 909) (by decide +kernel), List.mem_of_getElem? (i := 910) (by decide +kernel)⟩
theorem lw_p51 : lw_okq (⟨"ParrotSongsModel", "accepts", "(C)Z"⟩, 13) := ⟨⟨by decide +kernel, by decide +kernel⟩, List.mem_of_getElem? (i := 636) (by decide +kernel), List.mem_of_getElem? (i := 913) (by decide +kernel), List.mem_of_getElem? (i := 914) (by decide +kernel)⟩
theorem lw_p52 : lw_okq (⟨"ParrotSongsModel", "isSign", "(CC)Z"⟩, 13) := ⟨⟨by decide +kernel, by decide +kernel⟩, List.mem_of_getElem? (i := 636) (by decide +kernel), List.mem_of_getElem? (i := 917) (by decide +kernel), List.mem_of_getElem? (i := 918) (by decide +kernel)⟩
theorem lw_p53 : lw_okq (⟨"ParrotSongsModel", "letters", "()Z"⟩, 13) := ⟨⟨by decide +kernel, by decide +kernel⟩, List.mem_of_getElem? (i := 636) (by decide +kernel), List.mem_of_getElem? (i := 921) (by decide +kernel), List.mem_of_getElem? (i := 922) (by decide +kernel)⟩
theorem lw_p54 : lw_okq (⟨"ParrotSongsModel", "digit", "(I)Z"⟩, 13) := ⟨⟨by decide +kernel, by decide +kernel⟩, List.mem_of_getElem? (i := 636) (by decide +kernel), List.mem_of_getElem? (i := 925) (by decide +kernel), List.mem_of_getElem? (i := 926) (by decide +kernel)⟩
theorem lw_p55 : lw_okq (⟨"ParrotSongsModel", "number", "(I)Z"⟩, 13) := ⟨⟨by decide +kernel, by decide +kernel⟩, List.mem_of_getElem? (i := 636) (by decide +kernel), List.mem_of_getElem? (i := 929) (by decide +kernel), List.mem_of_getElem? (i := 930) (by decide +kernel)⟩
theorem lw_p56 : lw_okq (⟨"ParrotSongsModel", "does", "(I)I"⟩, 13) := ⟨⟨by decide +kernel, by decide +kernel⟩, List.mem_of_getElem? (i := 636) (by decide +kernel), List.mem_of_getElem? (i := 937) (by decide +kernel), List.mem_of_getElem? (i := 938) (by decide +kernel)⟩
theorem lw_p57 : lw_okq (⟨"ParrotSongsModel", "song", "(II)I"⟩, 13) := ⟨⟨by decide +kernel, by decide +kernel⟩, List.mem_of_getElem? (i := 636) (by decide +kernel), List.mem_of_getElem? (i := 941) (by decide +kernel), List.mem_of_getElem? (i := 942) (by decide +kernel)⟩
def lw_privs_4 : List (MethodName × Nat) := [(⟨"ParrotSongsModel", "known", "(I)I"⟩, 13), (⟨"ParrotSongsModel", "faultOf", "()I"⟩, 13), (⟨"ParrotSongsModel", "readsOrder", "()Z"⟩, 13), (⟨"ParrotSongsModel", "accepts", "(C)Z"⟩, 13), (⟨"ParrotSongsModel", "isSign", "(CC)Z"⟩, 13), (⟨"ParrotSongsModel", "letters", "()Z"⟩, 13), (⟨"ParrotSongsModel", "digit", "(I)Z"⟩, 13), (⟨"ParrotSongsModel", "number", "(I)Z"⟩, 13), (⟨"ParrotSongsModel", "does", "(I)I"⟩, 13), (⟨"ParrotSongsModel", "song", "(II)I"⟩, 13)]
theorem lw_r4 : ∀ q ∈ lw_privs_4, lw_okq q := List.forall_mem_cons.mpr ⟨lw_p48, List.forall_mem_cons.mpr ⟨lw_p49, List.forall_mem_cons.mpr ⟨lw_p50, List.forall_mem_cons.mpr ⟨lw_p51, List.forall_mem_cons.mpr ⟨lw_p52, List.forall_mem_cons.mpr ⟨lw_p53, List.forall_mem_cons.mpr ⟨lw_p54, List.forall_mem_cons.mpr ⟨lw_p55, List.forall_mem_cons.mpr ⟨lw_p56, List.forall_mem_cons.mpr ⟨lw_p57, fun _ h => absurd h List.not_mem_nil⟩⟩⟩⟩⟩⟩⟩⟩⟩⟩
def lw_privs : List (MethodName × Nat) := lw_privs_1 ++ (lw_privs_2 ++ (lw_privs_3 ++ (lw_privs_4)))
def lw_tbl : List Cond := k2_sels lw_privs ++ tables_1
theorem lw_privs_ok : ∀ q ∈ lw_privs, lw_okq q := by
  show ∀ q ∈ lw_privs_1 ++ (lw_privs_2 ++ (lw_privs_3 ++ (lw_privs_4))), lw_okq q
  exact List.forall_mem_append.mpr ⟨lw_r1, List.forall_mem_append.mpr ⟨lw_r2, List.forall_mem_append.mpr ⟨lw_r3, lw_r4⟩⟩⟩
end
section
theorem dX0_init_0 : decode cX0_init 0 = .ok (.aload_n 0, 1) := by decide +kernel
theorem dX0_init_1 : decode cX0_init 1 = .ok (.invokespecial 1, 3) := by decide +kernel
theorem dX0_init_4 : decode cX0_init 4 = .ok (.aload_n 0, 1) := by decide +kernel
theorem dX0_init_5 : decode cX0_init 5 = .ok (.bipush 6, 2) := by decide +kernel
theorem dX0_init_7 : decode cX0_init 7 = .ok (.anewarray 9, 3) := by decide +kernel
theorem dX0_init_10 : decode cX0_init 10 = .ok (.putfield 11, 3) := by decide +kernel
theorem dX0_init_13 : decode cX0_init 13 = .ok (.aload_n 0, 1) := by decide +kernel
theorem dX0_init_14 : decode cX0_init 14 = .ok (.new 9, 3) := by decide +kernel
theorem dX0_init_17 : decode cX0_init 17 = .ok (.dup, 1) := by decide +kernel
theorem dX0_init_18 : decode cX0_init 18 = .ok (.invokespecial 15, 3) := by decide +kernel
theorem dX0_init_21 : decode cX0_init 21 = .ok (.putfield 16, 3) := by decide +kernel
theorem dX0_init_24 : decode cX0_init 24 = .ok (.aload_n 0, 1) := by decide +kernel
theorem dX0_init_25 : decode cX0_init 25 = .ok (.iconst 0, 1) := by decide +kernel
theorem dX0_init_26 : decode cX0_init 26 = .ok (.putfield 20, 3) := by decide +kernel
theorem dX0_init_29 : decode cX0_init 29 = .ok (.iconst 0, 1) := by decide +kernel
theorem dX0_init_30 : decode cX0_init 30 = .ok (.istore_n 1, 1) := by decide +kernel
theorem dX0_init_31 : decode cX0_init 31 = .ok (.iload_n 1, 1) := by decide +kernel
theorem dX0_init_32 : decode cX0_init 32 = .ok (.bipush 6, 2) := by decide +kernel
theorem dX0_init_34 : decode cX0_init 34 = .ok (.if_icmp .ge 22, 3) := by decide +kernel
theorem dX0_init_37 : decode cX0_init 37 = .ok (.aload_n 0, 1) := by decide +kernel
theorem dX0_init_38 : decode cX0_init 38 = .ok (.getfield 11, 3) := by decide +kernel
theorem dX0_init_41 : decode cX0_init 41 = .ok (.iload_n 1, 1) := by decide +kernel
theorem dX0_init_42 : decode cX0_init 42 = .ok (.new 9, 3) := by decide +kernel
theorem dX0_init_45 : decode cX0_init 45 = .ok (.dup, 1) := by decide +kernel
theorem dX0_init_46 : decode cX0_init 46 = .ok (.invokespecial 15, 3) := by decide +kernel
theorem dX0_init_49 : decode cX0_init 49 = .ok (.aastore, 1) := by decide +kernel
theorem dX0_init_50 : decode cX0_init 50 = .ok (.iinc 1 1, 3) := by decide +kernel
theorem dX0_init_53 : decode cX0_init 53 = .ok (.goto (-22), 3) := by decide +kernel
theorem dX0_init_56 : decode cX0_init 56 = .ok (.return_, 1) := by decide +kernel
theorem dX0_noteBefore_0 : decode cX0_noteBefore 0 = .ok (.aload_n 0, 1) := by decide +kernel
theorem dX0_noteBefore_1 : decode cX0_noteBefore 1 = .ok (.getfield 16, 3) := by decide +kernel
theorem dX0_noteBefore_4 : decode cX0_noteBefore 4 = .ok (.aload_n 1, 1) := by decide +kernel
theorem dX0_noteBefore_5 : decode cX0_noteBefore 5 = .ok (.invokevirtual 24, 3) := by decide +kernel
theorem dX0_noteBefore_8 : decode cX0_noteBefore 8 = .ok (.return_, 1) := by decide +kernel
theorem dX0_keepUnlessError_0 : decode cX0_keepUnlessError 0 = .ok (.iload_n 1, 1) := by decide +kernel
theorem dX0_keepUnlessError_1 : decode cX0_keepUnlessError 1 = .ok (.invokestatic 28, 3) := by decide +kernel
theorem dX0_keepUnlessError_4 : decode cX0_keepUnlessError 4 = .ok (.ifCond .ne 7, 3) := by decide +kernel
theorem dX0_keepUnlessError_7 : decode cX0_keepUnlessError 7 = .ok (.aload_n 0, 1) := by decide +kernel
theorem dX0_keepUnlessError_8 : decode cX0_keepUnlessError 8 = .ok (.invokevirtual 34, 3) := by decide +kernel
theorem dX0_keepUnlessError_11 : decode cX0_keepUnlessError 11 = .ok (.iload_n 1, 1) := by decide +kernel
theorem dX0_keepUnlessError_12 : decode cX0_keepUnlessError 12 = .ok (.ireturn, 1) := by decide +kernel
theorem dX0_record_0 : decode cX0_record 0 = .ok (.aload_n 0, 1) := by decide +kernel
theorem dX0_record_1 : decode cX0_record 1 = .ok (.getfield 20, 3) := by decide +kernel
theorem dX0_record_4 : decode cX0_record 4 = .ok (.bipush 6, 2) := by decide +kernel
theorem dX0_record_6 : decode cX0_record 6 = .ok (.if_icmp .ne 7, 3) := by decide +kernel
theorem dX0_record_9 : decode cX0_record 9 = .ok (.aload_n 0, 1) := by decide +kernel
theorem dX0_record_10 : decode cX0_record 10 = .ok (.invokevirtual 37, 3) := by decide +kernel
theorem dX0_record_13 : decode cX0_record 13 = .ok (.aload_n 0, 1) := by decide +kernel
theorem dX0_record_14 : decode cX0_record 14 = .ok (.getfield 20, 3) := by decide +kernel
theorem dX0_record_17 : decode cX0_record 17 = .ok (.ifCond .lt 50, 3) := by decide +kernel
theorem dX0_record_20 : decode cX0_record 20 = .ok (.aload_n 0, 1) := by decide +kernel
theorem dX0_record_21 : decode cX0_record 21 = .ok (.getfield 20, 3) := by decide +kernel
theorem dX0_record_24 : decode cX0_record 24 = .ok (.bipush 6, 2) := by decide +kernel
theorem dX0_record_26 : decode cX0_record 26 = .ok (.if_icmp .ge 41, 3) := by decide +kernel
theorem dX0_record_29 : decode cX0_record 29 = .ok (.aload_n 0, 1) := by decide +kernel
theorem dX0_record_30 : decode cX0_record 30 = .ok (.getfield 11, 3) := by decide +kernel
theorem dX0_record_33 : decode cX0_record 33 = .ok (.aload_n 0, 1) := by decide +kernel
theorem dX0_record_34 : decode cX0_record 34 = .ok (.getfield 20, 3) := by decide +kernel
theorem dX0_record_37 : decode cX0_record 37 = .ok (.aaload, 1) := by decide +kernel
theorem dX0_record_38 : decode cX0_record 38 = .ok (.astore_n 1, 1) := by decide +kernel
theorem dX0_record_39 : decode cX0_record 39 = .ok (.aload_n 0, 1) := by decide +kernel
theorem dX0_record_40 : decode cX0_record 40 = .ok (.getfield 11, 3) := by decide +kernel
theorem dX0_record_43 : decode cX0_record 43 = .ok (.aload_n 0, 1) := by decide +kernel
theorem dX0_record_44 : decode cX0_record 44 = .ok (.getfield 20, 3) := by decide +kernel
theorem dX0_record_47 : decode cX0_record 47 = .ok (.aload_n 0, 1) := by decide +kernel
theorem dX0_record_48 : decode cX0_record 48 = .ok (.getfield 16, 3) := by decide +kernel
theorem dX0_record_51 : decode cX0_record 51 = .ok (.aastore, 1) := by decide +kernel
theorem dX0_record_52 : decode cX0_record 52 = .ok (.aload_n 0, 1) := by decide +kernel
theorem dX0_record_53 : decode cX0_record 53 = .ok (.aload_n 1, 1) := by decide +kernel
theorem dX0_record_54 : decode cX0_record 54 = .ok (.putfield 16, 3) := by decide +kernel
theorem dX0_record_57 : decode cX0_record 57 = .ok (.aload_n 0, 1) := by decide +kernel
theorem dX0_record_58 : decode cX0_record 58 = .ok (.dup, 1) := by decide +kernel
theorem dX0_record_59 : decode cX0_record 59 = .ok (.getfield 20, 3) := by decide +kernel
theorem dX0_record_62 : decode cX0_record 62 = .ok (.iconst 1, 1) := by decide +kernel
theorem dX0_record_63 : decode cX0_record 63 = .ok (.iadd, 1) := by decide +kernel
theorem dX0_record_64 : decode cX0_record 64 = .ok (.putfield 20, 3) := by decide +kernel
theorem dX0_record_67 : decode cX0_record 67 = .ok (.return_, 1) := by decide +kernel
theorem dX0_dropOldest_0 : decode cX0_dropOldest 0 = .ok (.aload_n 0, 1) := by decide +kernel
theorem dX0_dropOldest_1 : decode cX0_dropOldest 1 = .ok (.getfield 11, 3) := by decide +kernel
theorem dX0_dropOldest_4 : decode cX0_dropOldest 4 = .ok (.iconst 0, 1) := by decide +kernel
theorem dX0_dropOldest_5 : decode cX0_dropOldest 5 = .ok (.aaload, 1) := by decide +kernel
theorem dX0_dropOldest_6 : decode cX0_dropOldest 6 = .ok (.astore_n 1, 1) := by decide +kernel
theorem dX0_dropOldest_7 : decode cX0_dropOldest 7 = .ok (.iconst 1, 1) := by decide +kernel
theorem dX0_dropOldest_8 : decode cX0_dropOldest 8 = .ok (.istore_n 2, 1) := by decide +kernel
theorem dX0_dropOldest_9 : decode cX0_dropOldest 9 = .ok (.iload_n 2, 1) := by decide +kernel
theorem dX0_dropOldest_10 : decode cX0_dropOldest 10 = .ok (.bipush 6, 2) := by decide +kernel
theorem dX0_dropOldest_12 : decode cX0_dropOldest 12 = .ok (.if_icmp .ge 23, 3) := by decide +kernel
theorem dX0_dropOldest_15 : decode cX0_dropOldest 15 = .ok (.aload_n 0, 1) := by decide +kernel
theorem dX0_dropOldest_16 : decode cX0_dropOldest 16 = .ok (.getfield 11, 3) := by decide +kernel
theorem dX0_dropOldest_19 : decode cX0_dropOldest 19 = .ok (.iload_n 2, 1) := by decide +kernel
theorem dX0_dropOldest_20 : decode cX0_dropOldest 20 = .ok (.iconst 1, 1) := by decide +kernel
theorem dX0_dropOldest_21 : decode cX0_dropOldest 21 = .ok (.isub, 1) := by decide +kernel
theorem dX0_dropOldest_22 : decode cX0_dropOldest 22 = .ok (.aload_n 0, 1) := by decide +kernel
theorem dX0_dropOldest_23 : decode cX0_dropOldest 23 = .ok (.getfield 11, 3) := by decide +kernel
theorem dX0_dropOldest_26 : decode cX0_dropOldest 26 = .ok (.iload_n 2, 1) := by decide +kernel
theorem dX0_dropOldest_27 : decode cX0_dropOldest 27 = .ok (.aaload, 1) := by decide +kernel
theorem dX0_dropOldest_28 : decode cX0_dropOldest 28 = .ok (.aastore, 1) := by decide +kernel
theorem dX0_dropOldest_29 : decode cX0_dropOldest 29 = .ok (.iinc 2 1, 3) := by decide +kernel
theorem dX0_dropOldest_32 : decode cX0_dropOldest 32 = .ok (.goto (-23), 3) := by decide +kernel
theorem dX0_dropOldest_35 : decode cX0_dropOldest 35 = .ok (.aload_n 0, 1) := by decide +kernel
theorem dX0_dropOldest_36 : decode cX0_dropOldest 36 = .ok (.getfield 11, 3) := by decide +kernel
theorem dX0_dropOldest_39 : decode cX0_dropOldest 39 = .ok (.iconst 5, 1) := by decide +kernel
theorem dX0_dropOldest_40 : decode cX0_dropOldest 40 = .ok (.aload_n 1, 1) := by decide +kernel
theorem dX0_dropOldest_41 : decode cX0_dropOldest 41 = .ok (.aastore, 1) := by decide +kernel
theorem dX0_dropOldest_42 : decode cX0_dropOldest 42 = .ok (.aload_n 0, 1) := by decide +kernel
theorem dX0_dropOldest_43 : decode cX0_dropOldest 43 = .ok (.iconst 5, 1) := by decide +kernel
theorem dX0_dropOldest_44 : decode cX0_dropOldest 44 = .ok (.putfield 20, 3) := by decide +kernel
theorem dX0_dropOldest_47 : decode cX0_dropOldest 47 = .ok (.return_, 1) := by decide +kernel
theorem dX0_takeBack_0 : decode cX0_takeBack 0 = .ok (.aload_n 0, 1) := by decide +kernel
theorem dX0_takeBack_1 : decode cX0_takeBack 1 = .ok (.getfield 20, 3) := by decide +kernel
theorem dX0_takeBack_4 : decode cX0_takeBack 4 = .ok (.ifCond .le 35, 3) := by decide +kernel
theorem dX0_takeBack_7 : decode cX0_takeBack 7 = .ok (.aload_n 0, 1) := by decide +kernel
theorem dX0_takeBack_8 : decode cX0_takeBack 8 = .ok (.getfield 20, 3) := by decide +kernel
theorem dX0_takeBack_11 : decode cX0_takeBack 11 = .ok (.bipush 6, 2) := by decide +kernel
theorem dX0_takeBack_13 : decode cX0_takeBack 13 = .ok (.if_icmp .gt 26, 3) := by decide +kernel
theorem dX0_takeBack_16 : decode cX0_takeBack 16 = .ok (.aload_n 0, 1) := by decide +kernel
theorem dX0_takeBack_17 : decode cX0_takeBack 17 = .ok (.dup, 1) := by decide +kernel
theorem dX0_takeBack_18 : decode cX0_takeBack 18 = .ok (.getfield 20, 3) := by decide +kernel
theorem dX0_takeBack_21 : decode cX0_takeBack 21 = .ok (.iconst 1, 1) := by decide +kernel
theorem dX0_takeBack_22 : decode cX0_takeBack 22 = .ok (.isub, 1) := by decide +kernel
theorem dX0_takeBack_23 : decode cX0_takeBack 23 = .ok (.putfield 20, 3) := by decide +kernel
theorem dX0_takeBack_26 : decode cX0_takeBack 26 = .ok (.aload_n 1, 1) := by decide +kernel
theorem dX0_takeBack_27 : decode cX0_takeBack 27 = .ok (.aload_n 0, 1) := by decide +kernel
theorem dX0_takeBack_28 : decode cX0_takeBack 28 = .ok (.getfield 11, 3) := by decide +kernel
theorem dX0_takeBack_31 : decode cX0_takeBack 31 = .ok (.aload_n 0, 1) := by decide +kernel
theorem dX0_takeBack_32 : decode cX0_takeBack 32 = .ok (.getfield 20, 3) := by decide +kernel
theorem dX0_takeBack_35 : decode cX0_takeBack 35 = .ok (.aaload, 1) := by decide +kernel
theorem dX0_takeBack_36 : decode cX0_takeBack 36 = .ok (.invokevirtual 24, 3) := by decide +kernel
theorem dX0_takeBack_39 : decode cX0_takeBack 39 = .ok (.aload_n 0, 1) := by decide +kernel
theorem dX0_takeBack_40 : decode cX0_takeBack 40 = .ok (.getfield 20, 3) := by decide +kernel
theorem dX0_takeBack_43 : decode cX0_takeBack 43 = .ok (.ireturn, 1) := by decide +kernel
theorem dX1_init_0 : decode cX1_init 0 = .ok (.aload_n 0, 1) := by decide +kernel
theorem dX1_init_1 : decode cX1_init 1 = .ok (.invokespecial 3, 3) := by decide +kernel
theorem dX1_init_4 : decode cX1_init 4 = .ok (.aload_n 0, 1) := by decide +kernel
theorem dX1_init_5 : decode cX1_init 5 = .ok (.iconst 4, 1) := by decide +kernel
theorem dX1_init_6 : decode cX1_init 6 = .ok (.newarray .int, 2) := by decide +kernel
theorem dX1_init_8 : decode cX1_init 8 = .ok (.putfield 9, 3) := by decide +kernel
theorem dX1_init_11 : decode cX1_init 11 = .ok (.aload_n 0, 1) := by decide +kernel
theorem dX1_init_12 : decode cX1_init 12 = .ok (.new 15, 3) := by decide +kernel
theorem dX1_init_15 : decode cX1_init 15 = .ok (.dup, 1) := by decide +kernel
theorem dX1_init_16 : decode cX1_init 16 = .ok (.invokespecial 17, 3) := by decide +kernel
theorem dX1_init_19 : decode cX1_init 19 = .ok (.putfield 18, 3) := by decide +kernel
theorem dX1_init_22 : decode cX1_init 22 = .ok (.aload_n 0, 1) := by decide +kernel
theorem dX1_init_23 : decode cX1_init 23 = .ok (.iconst 4, 1) := by decide +kernel
theorem dX1_init_24 : decode cX1_init 24 = .ok (.anewarray 22, 3) := by decide +kernel
theorem dX1_init_27 : decode cX1_init 27 = .ok (.putfield 24, 3) := by decide +kernel
theorem dX1_init_30 : decode cX1_init 30 = .ok (.aload_n 0, 1) := by decide +kernel
theorem dX1_init_31 : decode cX1_init 31 = .ok (.iconst 0, 1) := by decide +kernel
theorem dX1_init_32 : decode cX1_init 32 = .ok (.putfield 28, 3) := by decide +kernel
theorem dX1_init_35 : decode cX1_init 35 = .ok (.aload_n 0, 1) := by decide +kernel
theorem dX1_init_36 : decode cX1_init 36 = .ok (.iconst 0, 1) := by decide +kernel
theorem dX1_init_37 : decode cX1_init 37 = .ok (.putfield 32, 3) := by decide +kernel
theorem dX1_init_40 : decode cX1_init 40 = .ok (.aload_n 0, 1) := by decide +kernel
theorem dX1_init_41 : decode cX1_init 41 = .ok (.bipush 40, 2) := by decide +kernel
theorem dX1_init_43 : decode cX1_init 43 = .ok (.newarray .int, 2) := by decide +kernel
theorem dX1_init_45 : decode cX1_init 45 = .ok (.putfield 35, 3) := by decide +kernel
theorem dX1_init_48 : decode cX1_init 48 = .ok (.getstatic 38, 3) := by decide +kernel
theorem dX1_init_51 : decode cX1_init 51 = .ok (.iconst 0, 1) := by decide +kernel
theorem dX1_init_52 : decode cX1_init 52 = .ok (.aload_n 0, 1) := by decide +kernel
theorem dX1_init_53 : decode cX1_init 53 = .ok (.getfield 9, 3) := by decide +kernel
theorem dX1_init_56 : decode cX1_init 56 = .ok (.iconst 0, 1) := by decide +kernel
theorem dX1_init_57 : decode cX1_init 57 = .ok (.iconst 4, 1) := by decide +kernel
theorem dX1_init_58 : decode cX1_init 58 = .ok (.invokestatic 41, 3) := by decide +kernel
theorem dX1_init_61 : decode cX1_init 61 = .ok (.iconst 0, 1) := by decide +kernel
theorem dX1_init_62 : decode cX1_init 62 = .ok (.istore_n 1, 1) := by decide +kernel
theorem dX1_init_63 : decode cX1_init 63 = .ok (.iload_n 1, 1) := by decide +kernel
theorem dX1_init_64 : decode cX1_init 64 = .ok (.iconst 4, 1) := by decide +kernel
theorem dX1_init_65 : decode cX1_init 65 = .ok (.if_icmp .ge 22, 3) := by decide +kernel
theorem dX1_init_68 : decode cX1_init 68 = .ok (.aload_n 0, 1) := by decide +kernel
theorem dX1_init_69 : decode cX1_init 69 = .ok (.getfield 24, 3) := by decide +kernel
theorem dX1_init_72 : decode cX1_init 72 = .ok (.iload_n 1, 1) := by decide +kernel
theorem dX1_init_73 : decode cX1_init 73 = .ok (.new 22, 3) := by decide +kernel
theorem dX1_init_76 : decode cX1_init 76 = .ok (.dup, 1) := by decide +kernel
theorem dX1_init_77 : decode cX1_init 77 = .ok (.invokespecial 47, 3) := by decide +kernel
theorem dX1_init_80 : decode cX1_init 80 = .ok (.aastore, 1) := by decide +kernel
theorem dX1_init_81 : decode cX1_init 81 = .ok (.iinc 1 1, 3) := by decide +kernel
theorem dX1_init_84 : decode cX1_init 84 = .ok (.goto (-21), 3) := by decide +kernel
theorem dX1_init_87 : decode cX1_init 87 = .ok (.return_, 1) := by decide +kernel
theorem dX1_copyFrom_0 : decode cX1_copyFrom 0 = .ok (.aload_n 1, 1) := by decide +kernel
theorem dX1_copyFrom_1 : decode cX1_copyFrom 1 = .ok (.getfield 9, 3) := by decide +kernel
theorem dX1_copyFrom_4 : decode cX1_copyFrom 4 = .ok (.iconst 0, 1) := by decide +kernel
theorem dX1_copyFrom_5 : decode cX1_copyFrom 5 = .ok (.aload_n 0, 1) := by decide +kernel
theorem dX1_copyFrom_6 : decode cX1_copyFrom 6 = .ok (.getfield 9, 3) := by decide +kernel
theorem dX1_copyFrom_9 : decode cX1_copyFrom 9 = .ok (.iconst 0, 1) := by decide +kernel
theorem dX1_copyFrom_10 : decode cX1_copyFrom 10 = .ok (.iconst 4, 1) := by decide +kernel
theorem dX1_copyFrom_11 : decode cX1_copyFrom 11 = .ok (.invokestatic 41, 3) := by decide +kernel
theorem dX1_copyFrom_14 : decode cX1_copyFrom 14 = .ok (.aload_n 0, 1) := by decide +kernel
theorem dX1_copyFrom_15 : decode cX1_copyFrom 15 = .ok (.getfield 18, 3) := by decide +kernel
theorem dX1_copyFrom_18 : decode cX1_copyFrom 18 = .ok (.aload_n 1, 1) := by decide +kernel
theorem dX1_copyFrom_19 : decode cX1_copyFrom 19 = .ok (.getfield 18, 3) := by decide +kernel
theorem dX1_copyFrom_22 : decode cX1_copyFrom 22 = .ok (.invokevirtual 48, 3) := by decide +kernel
theorem dX1_copyFrom_25 : decode cX1_copyFrom 25 = .ok (.iconst 0, 1) := by decide +kernel
theorem dX1_copyFrom_26 : decode cX1_copyFrom 26 = .ok (.istore_n 2, 1) := by decide +kernel
theorem dX1_copyFrom_27 : decode cX1_copyFrom 27 = .ok (.iload_n 2, 1) := by decide +kernel
theorem dX1_copyFrom_28 : decode cX1_copyFrom 28 = .ok (.iconst 4, 1) := by decide +kernel
theorem dX1_copyFrom_29 : decode cX1_copyFrom 29 = .ok (.if_icmp .ge 24, 3) := by decide +kernel
theorem dX1_copyFrom_32 : decode cX1_copyFrom 32 = .ok (.aload_n 0, 1) := by decide +kernel
theorem dX1_copyFrom_33 : decode cX1_copyFrom 33 = .ok (.getfield 24, 3) := by decide +kernel
theorem dX1_copyFrom_36 : decode cX1_copyFrom 36 = .ok (.iload_n 2, 1) := by decide +kernel
theorem dX1_copyFrom_37 : decode cX1_copyFrom 37 = .ok (.aaload, 1) := by decide +kernel
theorem dX1_copyFrom_38 : decode cX1_copyFrom 38 = .ok (.aload_n 1, 1) := by decide +kernel
theorem dX1_copyFrom_39 : decode cX1_copyFrom 39 = .ok (.getfield 24, 3) := by decide +kernel
theorem dX1_copyFrom_42 : decode cX1_copyFrom 42 = .ok (.iload_n 2, 1) := by decide +kernel
theorem dX1_copyFrom_43 : decode cX1_copyFrom 43 = .ok (.aaload, 1) := by decide +kernel
theorem dX1_copyFrom_44 : decode cX1_copyFrom 44 = .ok (.invokevirtual 52, 3) := by decide +kernel
theorem dX1_copyFrom_47 : decode cX1_copyFrom 47 = .ok (.iinc 2 1, 3) := by decide +kernel
theorem dX1_copyFrom_50 : decode cX1_copyFrom 50 = .ok (.goto (-23), 3) := by decide +kernel
theorem dX1_copyFrom_53 : decode cX1_copyFrom 53 = .ok (.aload_n 0, 1) := by decide +kernel
theorem dX1_copyFrom_54 : decode cX1_copyFrom 54 = .ok (.aload_n 1, 1) := by decide +kernel
theorem dX1_copyFrom_55 : decode cX1_copyFrom 55 = .ok (.getfield 28, 3) := by decide +kernel
theorem dX1_copyFrom_58 : decode cX1_copyFrom 58 = .ok (.putfield 28, 3) := by decide +kernel
theorem dX1_copyFrom_61 : decode cX1_copyFrom 61 = .ok (.aload_n 0, 1) := by decide +kernel
theorem dX1_copyFrom_62 : decode cX1_copyFrom 62 = .ok (.aload_n 1, 1) := by decide +kernel
theorem dX1_copyFrom_63 : decode cX1_copyFrom 63 = .ok (.getfield 32, 3) := by decide +kernel
theorem dX1_copyFrom_66 : decode cX1_copyFrom 66 = .ok (.putfield 32, 3) := by decide +kernel
theorem dX1_copyFrom_69 : decode cX1_copyFrom 69 = .ok (.return_, 1) := by decide +kernel
theorem dX1_changeSetting_0 : decode cX1_changeSetting 0 = .ok (.iload_n 1, 1) := by decide +kernel
theorem dX1_changeSetting_1 : decode cX1_changeSetting 1 = .ok (.ifCond .lt 8, 3) := by decide +kernel
theorem dX1_changeSetting_4 : decode cX1_changeSetting 4 = .ok (.iload_n 1, 1) := by decide +kernel
theorem dX1_changeSetting_5 : decode cX1_changeSetting 5 = .ok (.iconst 4, 1) := by decide +kernel
theorem dX1_changeSetting_6 : decode cX1_changeSetting 6 = .ok (.if_icmp .lt 6, 3) := by decide +kernel
theorem dX1_changeSetting_9 : decode cX1_changeSetting 9 = .ok (.bipush (-2), 2) := by decide +kernel
theorem dX1_changeSetting_11 : decode cX1_changeSetting 11 = .ok (.ireturn, 1) := by decide +kernel
theorem dX1_changeSetting_12 : decode cX1_changeSetting 12 = .ok (.iload_n 2, 1) := by decide +kernel
theorem dX1_changeSetting_13 : decode cX1_changeSetting 13 = .ok (.getstatic 55, 3) := by decide +kernel
theorem dX1_changeSetting_16 : decode cX1_changeSetting 16 = .ok (.iload_n 1, 1) := by decide +kernel
theorem dX1_changeSetting_17 : decode cX1_changeSetting 17 = .ok (.iaload, 1) := by decide +kernel
theorem dX1_changeSetting_18 : decode cX1_changeSetting 18 = .ok (.if_icmp .lt 12, 3) := by decide +kernel
theorem dX1_changeSetting_21 : decode cX1_changeSetting 21 = .ok (.iload_n 2, 1) := by decide +kernel
theorem dX1_changeSetting_22 : decode cX1_changeSetting 22 = .ok (.getstatic 58, 3) := by decide +kernel
theorem dX1_changeSetting_25 : decode cX1_changeSetting 25 = .ok (.iload_n 1, 1) := by decide +kernel
theorem dX1_changeSetting_26 : decode cX1_changeSetting 26 = .ok (.iaload, 1) := by decide +kernel
theorem dX1_changeSetting_27 : decode cX1_changeSetting 27 = .ok (.if_icmp .le 6, 3) := by decide +kernel
theorem dX1_changeSetting_30 : decode cX1_changeSetting 30 = .ok (.bipush (-2), 2) := by decide +kernel
theorem dX1_changeSetting_32 : decode cX1_changeSetting 32 = .ok (.ireturn, 1) := by decide +kernel
theorem dX1_changeSetting_33 : decode cX1_changeSetting 33 = .ok (.aload_n 0, 1) := by decide +kernel
theorem dX1_changeSetting_34 : decode cX1_changeSetting 34 = .ok (.getfield 9, 3) := by decide +kernel
theorem dX1_changeSetting_37 : decode cX1_changeSetting 37 = .ok (.iload_n 1, 1) := by decide +kernel
theorem dX1_changeSetting_38 : decode cX1_changeSetting 38 = .ok (.iaload, 1) := by decide +kernel
theorem dX1_changeSetting_39 : decode cX1_changeSetting 39 = .ok (.istore_n 3, 1) := by decide +kernel
theorem dX1_changeSetting_40 : decode cX1_changeSetting 40 = .ok (.aload_n 0, 1) := by decide +kernel
theorem dX1_changeSetting_41 : decode cX1_changeSetting 41 = .ok (.getfield 9, 3) := by decide +kernel
theorem dX1_changeSetting_44 : decode cX1_changeSetting 44 = .ok (.iload_n 1, 1) := by decide +kernel
theorem dX1_changeSetting_45 : decode cX1_changeSetting 45 = .ok (.iload_n 2, 1) := by decide +kernel
theorem dX1_changeSetting_46 : decode cX1_changeSetting 46 = .ok (.iastore, 1) := by decide +kernel
theorem dX1_changeSetting_47 : decode cX1_changeSetting 47 = .ok (.iload_n 3, 1) := by decide +kernel
theorem dX1_changeSetting_48 : decode cX1_changeSetting 48 = .ok (.ireturn, 1) := by decide +kernel
theorem dX1_addParrot_0 : decode cX1_addParrot 0 = .ok (.aload_n 0, 1) := by decide +kernel
theorem dX1_addParrot_1 : decode cX1_addParrot 1 = .ok (.getfield 28, 3) := by decide +kernel
theorem dX1_addParrot_4 : decode cX1_addParrot 4 = .ok (.iconst 4, 1) := by decide +kernel
theorem dX1_addParrot_5 : decode cX1_addParrot 5 = .ok (.if_icmp .lt 6, 3) := by decide +kernel
theorem dX1_addParrot_8 : decode cX1_addParrot 8 = .ok (.bipush (-4), 2) := by decide +kernel
theorem dX1_addParrot_10 : decode cX1_addParrot 10 = .ok (.ireturn, 1) := by decide +kernel
theorem dX1_addParrot_11 : decode cX1_addParrot 11 = .ok (.aload_n 0, 1) := by decide +kernel
theorem dX1_addParrot_12 : decode cX1_addParrot 12 = .ok (.dup, 1) := by decide +kernel
theorem dX1_addParrot_13 : decode cX1_addParrot 13 = .ok (.getfield 28, 3) := by decide +kernel
theorem dX1_addParrot_16 : decode cX1_addParrot 16 = .ok (.iconst 1, 1) := by decide +kernel
theorem dX1_addParrot_17 : decode cX1_addParrot 17 = .ok (.iadd, 1) := by decide +kernel
theorem dX1_addParrot_18 : decode cX1_addParrot 18 = .ok (.putfield 28, 3) := by decide +kernel
theorem dX1_addParrot_21 : decode cX1_addParrot 21 = .ok (.aload_n 0, 1) := by decide +kernel
theorem dX1_addParrot_22 : decode cX1_addParrot 22 = .ok (.getfield 28, 3) := by decide +kernel
theorem dX1_addParrot_25 : decode cX1_addParrot 25 = .ok (.iconst 1, 1) := by decide +kernel
theorem dX1_addParrot_26 : decode cX1_addParrot 26 = .ok (.isub, 1) := by decide +kernel
theorem dX1_addParrot_27 : decode cX1_addParrot 27 = .ok (.ireturn, 1) := by decide +kernel
theorem dX1_hasParrot_0 : decode cX1_hasParrot 0 = .ok (.iload_n 1, 1) := by decide +kernel
theorem dX1_hasParrot_1 : decode cX1_hasParrot 1 = .ok (.ifCond .lt 15, 3) := by decide +kernel
theorem dX1_hasParrot_4 : decode cX1_hasParrot 4 = .ok (.iload_n 1, 1) := by decide +kernel
theorem dX1_hasParrot_5 : decode cX1_hasParrot 5 = .ok (.aload_n 0, 1) := by decide +kernel
theorem dX1_hasParrot_6 : decode cX1_hasParrot 6 = .ok (.getfield 28, 3) := by decide +kernel
theorem dX1_hasParrot_9 : decode cX1_hasParrot 9 = .ok (.if_icmp .ge 7, 3) := by decide +kernel
theorem dX1_hasParrot_12 : decode cX1_hasParrot 12 = .ok (.iconst 1, 1) := by decide +kernel
theorem dX1_hasParrot_13 : decode cX1_hasParrot 13 = .ok (.goto 4, 3) := by decide +kernel
theorem dX1_hasParrot_16 : decode cX1_hasParrot 16 = .ok (.iconst 0, 1) := by decide +kernel
theorem dX1_hasParrot_17 : decode cX1_hasParrot 17 = .ok (.ireturn, 1) := by decide +kernel
theorem dX1_isTired_0 : decode cX1_isTired 0 = .ok (.aload_n 1, 1) := by decide +kernel
theorem dX1_isTired_1 : decode cX1_isTired 1 = .ok (.getfield 61, 3) := by decide +kernel
theorem dX1_isTired_4 : decode cX1_isTired 4 = .ok (.aload_n 0, 1) := by decide +kernel
theorem dX1_isTired_5 : decode cX1_isTired 5 = .ok (.getfield 9, 3) := by decide +kernel
theorem dX1_isTired_8 : decode cX1_isTired 8 = .ok (.iconst 3, 1) := by decide +kernel
theorem dX1_isTired_9 : decode cX1_isTired 9 = .ok (.iaload, 1) := by decide +kernel
theorem dX1_isTired_10 : decode cX1_isTired 10 = .ok (.if_icmp .lt 7, 3) := by decide +kernel
theorem dX1_isTired_13 : decode cX1_isTired 13 = .ok (.iconst 1, 1) := by decide +kernel
theorem dX1_isTired_14 : decode cX1_isTired 14 = .ok (.goto 4, 3) := by decide +kernel
theorem dX1_isTired_17 : decode cX1_isTired 17 = .ok (.iconst 0, 1) := by decide +kernel
theorem dX1_isTired_18 : decode cX1_isTired 18 = .ok (.ireturn, 1) := by decide +kernel
theorem dX1_teach_0 : decode cX1_teach 0 = .ok (.aload_n 0, 1) := by decide +kernel
theorem dX1_teach_1 : decode cX1_teach 1 = .ok (.iload_n 1, 1) := by decide +kernel
theorem dX1_teach_2 : decode cX1_teach 2 = .ok (.invokevirtual 64, 3) := by decide +kernel
theorem dX1_teach_5 : decode cX1_teach 5 = .ok (.ifCond .eq 14, 3) := by decide +kernel
theorem dX1_teach_8 : decode cX1_teach 8 = .ok (.aload_n 0, 1) := by decide +kernel
theorem dX1_teach_9 : decode cX1_teach 9 = .ok (.getfield 18, 3) := by decide +kernel
theorem dX1_teach_12 : decode cX1_teach 12 = .ok (.iload_n 2, 1) := by decide +kernel
theorem dX1_teach_13 : decode cX1_teach 13 = .ok (.invokevirtual 68, 3) := by decide +kernel
theorem dX1_teach_16 : decode cX1_teach 16 = .ok (.ifCond .ne 5, 3) := by decide +kernel
theorem dX1_teach_19 : decode cX1_teach 19 = .ok (.iconst (-1), 1) := by decide +kernel
theorem dX1_teach_20 : decode cX1_teach 20 = .ok (.ireturn, 1) := by decide +kernel
theorem dX1_teach_21 : decode cX1_teach 21 = .ok (.aload_n 0, 1) := by decide +kernel
theorem dX1_teach_22 : decode cX1_teach 22 = .ok (.getfield 18, 3) := by decide +kernel
theorem dX1_teach_25 : decode cX1_teach 25 = .ok (.iload_n 2, 1) := by decide +kernel
theorem dX1_teach_26 : decode cX1_teach 26 = .ok (.iload_n 3, 1) := by decide +kernel
theorem dX1_teach_27 : decode cX1_teach 27 = .ok (.invokevirtual 71, 3) := by decide +kernel
theorem dX1_teach_30 : decode cX1_teach 30 = .ok (.ifCond .ne 6, 3) := by decide +kernel
theorem dX1_teach_33 : decode cX1_teach 33 = .ok (.bipush (-2), 2) := by decide +kernel
theorem dX1_teach_35 : decode cX1_teach 35 = .ok (.ireturn, 1) := by decide +kernel
theorem dX1_teach_36 : decode cX1_teach 36 = .ok (.aload_n 0, 1) := by decide +kernel
theorem dX1_teach_37 : decode cX1_teach 37 = .ok (.getfield 24, 3) := by decide +kernel
theorem dX1_teach_40 : decode cX1_teach 40 = .ok (.iload_n 1, 1) := by decide +kernel
theorem dX1_teach_41 : decode cX1_teach 41 = .ok (.aaload, 1) := by decide +kernel
theorem dX1_teach_42 : decode cX1_teach 42 = .ok (.astore 4, 2) := by decide +kernel
theorem dX1_teach_44 : decode cX1_teach 44 = .ok (.aload_n 0, 1) := by decide +kernel
theorem dX1_teach_45 : decode cX1_teach 45 = .ok (.aload 4, 2) := by decide +kernel
theorem dX1_teach_47 : decode cX1_teach 47 = .ok (.invokevirtual 75, 3) := by decide +kernel
theorem dX1_teach_50 : decode cX1_teach 50 = .ok (.ifCond .eq 6, 3) := by decide +kernel
theorem dX1_teach_53 : decode cX1_teach 53 = .ok (.bipush (-5), 2) := by decide +kernel
theorem dX1_teach_55 : decode cX1_teach 55 = .ok (.ireturn, 1) := by decide +kernel
theorem dX1_teach_56 : decode cX1_teach 56 = .ok (.iload_n 3, 1) := by decide +kernel
theorem dX1_teach_57 : decode cX1_teach 57 = .ok (.istore 5, 2) := by decide +kernel
theorem dX1_teach_59 : decode cX1_teach 59 = .ok (.iload 5, 2) := by decide +kernel
theorem dX1_teach_61 : decode cX1_teach 61 = .ok (.aload_n 0, 1) := by decide +kernel
theorem dX1_teach_62 : decode cX1_teach 62 = .ok (.getfield 18, 3) := by decide +kernel
theorem dX1_teach_65 : decode cX1_teach 65 = .ok (.iload_n 2, 1) := by decide +kernel
theorem dX1_teach_66 : decode cX1_teach 66 = .ok (.invokevirtual 79, 3) := by decide +kernel
theorem dX1_teach_69 : decode cX1_teach 69 = .ok (.if_icmp .ge 45, 3) := by decide +kernel
theorem dX1_teach_72 : decode cX1_teach 72 = .ok (.aload_n 0, 1) := by decide +kernel
theorem dX1_teach_73 : decode cX1_teach 73 = .ok (.aload 4, 2) := by decide +kernel
theorem dX1_teach_75 : decode cX1_teach 75 = .ok (.invokevirtual 75, 3) := by decide +kernel
theorem dX1_teach_78 : decode cX1_teach 78 = .ok (.ifCond .ne 36, 3) := by decide +kernel
theorem dX1_teach_81 : decode cX1_teach 81 = .ok (.aload 4, 2) := by decide +kernel
theorem dX1_teach_83 : decode cX1_teach 83 = .ok (.aload_n 0, 1) := by decide +kernel
theorem dX1_teach_84 : decode cX1_teach 84 = .ok (.getfield 18, 3) := by decide +kernel
theorem dX1_teach_87 : decode cX1_teach 87 = .ok (.iload_n 2, 1) := by decide +kernel
theorem dX1_teach_88 : decode cX1_teach 88 = .ok (.iload 5, 2) := by decide +kernel
theorem dX1_teach_90 : decode cX1_teach 90 = .ok (.invokevirtual 83, 3) := by decide +kernel
theorem dX1_teach_93 : decode cX1_teach 93 = .ok (.aload_n 0, 1) := by decide +kernel
theorem dX1_teach_94 : decode cX1_teach 94 = .ok (.getfield 9, 3) := by decide +kernel
theorem dX1_teach_97 : decode cX1_teach 97 = .ok (.iconst 2, 1) := by decide +kernel
theorem dX1_teach_98 : decode cX1_teach 98 = .ok (.iaload, 1) := by decide +kernel
theorem dX1_teach_99 : decode cX1_teach 99 = .ok (.aload_n 0, 1) := by decide +kernel
theorem dX1_teach_100 : decode cX1_teach 100 = .ok (.getfield 9, 3) := by decide +kernel
theorem dX1_teach_103 : decode cX1_teach 103 = .ok (.iconst 0, 1) := by decide +kernel
theorem dX1_teach_104 : decode cX1_teach 104 = .ok (.iaload, 1) := by decide +kernel
theorem dX1_teach_105 : decode cX1_teach 105 = .ok (.invokevirtual 87, 3) := by decide +kernel
theorem dX1_teach_108 : decode cX1_teach 108 = .ok (.iinc 5 1, 3) := by decide +kernel
theorem dX1_teach_111 : decode cX1_teach 111 = .ok (.goto (-52), 3) := by decide +kernel
theorem dX1_teach_114 : decode cX1_teach 114 = .ok (.aload_n 0, 1) := by decide +kernel
theorem dX1_teach_115 : decode cX1_teach 115 = .ok (.getfield 18, 3) := by decide +kernel
theorem dX1_teach_118 : decode cX1_teach 118 = .ok (.iload_n 2, 1) := by decide +kernel
theorem dX1_teach_119 : decode cX1_teach 119 = .ok (.invokevirtual 91, 3) := by decide +kernel
theorem dX1_teach_122 : decode cX1_teach 122 = .ok (.iload 5, 2) := by decide +kernel
theorem dX1_teach_124 : decode cX1_teach 124 = .ok (.iload_n 3, 1) := by decide +kernel
theorem dX1_teach_125 : decode cX1_teach 125 = .ok (.isub, 1) := by decide +kernel
theorem dX1_teach_126 : decode cX1_teach 126 = .ok (.ireturn, 1) := by decide +kernel
theorem dX1_singWholeTo_0 : decode cX1_singWholeTo 0 = .ok (.iconst 0, 1) := by decide +kernel
theorem dX1_singWholeTo_1 : decode cX1_singWholeTo 1 = .ok (.istore_n 3, 1) := by decide +kernel
theorem dX1_singWholeTo_2 : decode cX1_singWholeTo 2 = .ok (.iload_n 3, 1) := by decide +kernel
theorem dX1_singWholeTo_3 : decode cX1_singWholeTo 3 = .ok (.aload_n 0, 1) := by decide +kernel
theorem dX1_singWholeTo_4 : decode cX1_singWholeTo 4 = .ok (.getfield 18, 3) := by decide +kernel
theorem dX1_singWholeTo_7 : decode cX1_singWholeTo 7 = .ok (.iload_n 2, 1) := by decide +kernel
theorem dX1_singWholeTo_8 : decode cX1_singWholeTo 8 = .ok (.invokevirtual 79, 3) := by decide +kernel
theorem dX1_singWholeTo_11 : decode cX1_singWholeTo 11 = .ok (.if_icmp .ge 34, 3) := by decide +kernel
theorem dX1_singWholeTo_14 : decode cX1_singWholeTo 14 = .ok (.aload_n 1, 1) := by decide +kernel
theorem dX1_singWholeTo_15 : decode cX1_singWholeTo 15 = .ok (.aload_n 0, 1) := by decide +kernel
theorem dX1_singWholeTo_16 : decode cX1_singWholeTo 16 = .ok (.getfield 18, 3) := by decide +kernel
theorem dX1_singWholeTo_19 : decode cX1_singWholeTo 19 = .ok (.iload_n 2, 1) := by decide +kernel
theorem dX1_singWholeTo_20 : decode cX1_singWholeTo 20 = .ok (.iload_n 3, 1) := by decide +kernel
theorem dX1_singWholeTo_21 : decode cX1_singWholeTo 21 = .ok (.invokevirtual 83, 3) := by decide +kernel
theorem dX1_singWholeTo_24 : decode cX1_singWholeTo 24 = .ok (.aload_n 0, 1) := by decide +kernel
theorem dX1_singWholeTo_25 : decode cX1_singWholeTo 25 = .ok (.getfield 9, 3) := by decide +kernel
theorem dX1_singWholeTo_28 : decode cX1_singWholeTo 28 = .ok (.iconst 2, 1) := by decide +kernel
theorem dX1_singWholeTo_29 : decode cX1_singWholeTo 29 = .ok (.iaload, 1) := by decide +kernel
theorem dX1_singWholeTo_30 : decode cX1_singWholeTo 30 = .ok (.aload_n 0, 1) := by decide +kernel
theorem dX1_singWholeTo_31 : decode cX1_singWholeTo 31 = .ok (.getfield 9, 3) := by decide +kernel
theorem dX1_singWholeTo_34 : decode cX1_singWholeTo 34 = .ok (.iconst 0, 1) := by decide +kernel
theorem dX1_singWholeTo_35 : decode cX1_singWholeTo 35 = .ok (.iaload, 1) := by decide +kernel
theorem dX1_singWholeTo_36 : decode cX1_singWholeTo 36 = .ok (.invokevirtual 87, 3) := by decide +kernel
theorem dX1_singWholeTo_39 : decode cX1_singWholeTo 39 = .ok (.iinc 3 1, 3) := by decide +kernel
theorem dX1_singWholeTo_42 : decode cX1_singWholeTo 42 = .ok (.goto (-40), 3) := by decide +kernel
theorem dX1_singWholeTo_45 : decode cX1_singWholeTo 45 = .ok (.return_, 1) := by decide +kernel
theorem dX1_silence_0 : decode cX1_silence 0 = .ok (.aload_n 0, 1) := by decide +kernel
theorem dX1_silence_1 : decode cX1_silence 1 = .ok (.iload_n 1, 1) := by decide +kernel
theorem dX1_silence_2 : decode cX1_silence 2 = .ok (.invokevirtual 64, 3) := by decide +kernel
theorem dX1_silence_5 : decode cX1_silence 5 = .ok (.ifCond .ne 5, 3) := by decide +kernel
theorem dX1_silence_8 : decode cX1_silence 8 = .ok (.iconst (-1), 1) := by decide +kernel
theorem dX1_silence_9 : decode cX1_silence 9 = .ok (.ireturn, 1) := by decide +kernel
theorem dX1_silence_10 : decode cX1_silence 10 = .ok (.aload_n 0, 1) := by decide +kernel
theorem dX1_silence_11 : decode cX1_silence 11 = .ok (.getfield 24, 3) := by decide +kernel
theorem dX1_silence_14 : decode cX1_silence 14 = .ok (.iload_n 1, 1) := by decide +kernel
theorem dX1_silence_15 : decode cX1_silence 15 = .ok (.aaload, 1) := by decide +kernel
theorem dX1_silence_16 : decode cX1_silence 16 = .ok (.getfield 95, 3) := by decide +kernel
theorem dX1_silence_19 : decode cX1_silence 19 = .ok (.istore_n 2, 1) := by decide +kernel
theorem dX1_silence_20 : decode cX1_silence 20 = .ok (.aload_n 0, 1) := by decide +kernel
theorem dX1_silence_21 : decode cX1_silence 21 = .ok (.getfield 24, 3) := by decide +kernel
theorem dX1_silence_24 : decode cX1_silence 24 = .ok (.iload_n 1, 1) := by decide +kernel
theorem dX1_silence_25 : decode cX1_silence 25 = .ok (.aaload, 1) := by decide +kernel
theorem dX1_silence_26 : decode cX1_silence 26 = .ok (.bipush (-6), 2) := by decide +kernel
theorem dX1_silence_28 : decode cX1_silence 28 = .ok (.putfield 95, 3) := by decide +kernel
theorem dX1_silence_31 : decode cX1_silence 31 = .ok (.iload_n 2, 1) := by decide +kernel
theorem dX1_silence_32 : decode cX1_silence 32 = .ok (.ireturn, 1) := by decide +kernel
theorem dX1_letPractise_0 : decode cX1_letPractise 0 = .ok (.aload_n 0, 1) := by decide +kernel
theorem dX1_letPractise_1 : decode cX1_letPractise 1 = .ok (.iload_n 1, 1) := by decide +kernel
theorem dX1_letPractise_2 : decode cX1_letPractise 2 = .ok (.invokevirtual 64, 3) := by decide +kernel
theorem dX1_letPractise_5 : decode cX1_letPractise 5 = .ok (.ifCond .ne 5, 3) := by decide +kernel
theorem dX1_letPractise_8 : decode cX1_letPractise 8 = .ok (.iconst (-1), 1) := by decide +kernel
theorem dX1_letPractise_9 : decode cX1_letPractise 9 = .ok (.ireturn, 1) := by decide +kernel
theorem dX1_letPractise_10 : decode cX1_letPractise 10 = .ok (.iload_n 2, 1) := by decide +kernel
theorem dX1_letPractise_11 : decode cX1_letPractise 11 = .ok (.iconst 1, 1) := by decide +kernel
theorem dX1_letPractise_12 : decode cX1_letPractise 12 = .ok (.if_icmp .lt 9, 3) := by decide +kernel
theorem dX1_letPractise_15 : decode cX1_letPractise 15 = .ok (.iload_n 2, 1) := by decide +kernel
theorem dX1_letPractise_16 : decode cX1_letPractise 16 = .ok (.bipush 40, 2) := by decide +kernel
theorem dX1_letPractise_18 : decode cX1_letPractise 18 = .ok (.if_icmp .le 6, 3) := by decide +kernel
theorem dX1_letPractise_21 : decode cX1_letPractise 21 = .ok (.bipush (-2), 2) := by decide +kernel
theorem dX1_letPractise_23 : decode cX1_letPractise 23 = .ok (.ireturn, 1) := by decide +kernel
theorem dX1_letPractise_24 : decode cX1_letPractise 24 = .ok (.aload_n 0, 1) := by decide +kernel
theorem dX1_letPractise_25 : decode cX1_letPractise 25 = .ok (.getfield 24, 3) := by decide +kernel
theorem dX1_letPractise_28 : decode cX1_letPractise 28 = .ok (.iload_n 1, 1) := by decide +kernel
theorem dX1_letPractise_29 : decode cX1_letPractise 29 = .ok (.aaload, 1) := by decide +kernel
theorem dX1_letPractise_30 : decode cX1_letPractise 30 = .ok (.astore_n 3, 1) := by decide +kernel
theorem dX1_letPractise_31 : decode cX1_letPractise 31 = .ok (.aload_n 3, 1) := by decide +kernel
theorem dX1_letPractise_32 : decode cX1_letPractise 32 = .ok (.getfield 95, 3) := by decide +kernel
theorem dX1_letPractise_35 : decode cX1_letPractise 35 = .ok (.bipush (-6), 2) := by decide +kernel
theorem dX1_letPractise_37 : decode cX1_letPractise 37 = .ok (.if_icmp .eq 11, 3) := by decide +kernel
theorem dX1_letPractise_40 : decode cX1_letPractise 40 = .ok (.aload_n 0, 1) := by decide +kernel
theorem dX1_letPractise_41 : decode cX1_letPractise 41 = .ok (.aload_n 3, 1) := by decide +kernel
theorem dX1_letPractise_42 : decode cX1_letPractise 42 = .ok (.invokevirtual 75, 3) := by decide +kernel
theorem dX1_letPractise_45 : decode cX1_letPractise 45 = .ok (.ifCond .eq 6, 3) := by decide +kernel
theorem dX1_letPractise_48 : decode cX1_letPractise 48 = .ok (.bipush (-5), 2) := by decide +kernel
theorem dX1_letPractise_50 : decode cX1_letPractise 50 = .ok (.ireturn, 1) := by decide +kernel
theorem dX1_letPractise_51 : decode cX1_letPractise 51 = .ok (.aload_n 0, 1) := by decide +kernel
theorem dX1_letPractise_52 : decode cX1_letPractise 52 = .ok (.aload_n 3, 1) := by decide +kernel
theorem dX1_letPractise_53 : decode cX1_letPractise 53 = .ok (.iload_n 2, 1) := by decide +kernel
theorem dX1_letPractise_54 : decode cX1_letPractise 54 = .ok (.invokevirtual 98, 3) := by decide +kernel
theorem dX1_letPractise_57 : decode cX1_letPractise 57 = .ok (.istore 4, 2) := by decide +kernel
theorem dX1_letPractise_59 : decode cX1_letPractise 59 = .ok (.aload_n 0, 1) := by decide +kernel
theorem dX1_letPractise_60 : decode cX1_letPractise 60 = .ok (.aload_n 3, 1) := by decide +kernel
theorem dX1_letPractise_61 : decode cX1_letPractise 61 = .ok (.iload 4, 2) := by decide +kernel
theorem dX1_letPractise_63 : decode cX1_letPractise 63 = .ok (.invokevirtual 102, 3) := by decide +kernel
theorem dX1_letPractise_66 : decode cX1_letPractise 66 = .ok (.iconst 0, 1) := by decide +kernel
theorem dX1_letPractise_67 : decode cX1_letPractise 67 = .ok (.istore 5, 2) := by decide +kernel
theorem dX1_letPractise_69 : decode cX1_letPractise 69 = .ok (.iload 5, 2) := by decide +kernel
theorem dX1_letPractise_71 : decode cX1_letPractise 71 = .ok (.aload_n 0, 1) := by decide +kernel
theorem dX1_letPractise_72 : decode cX1_letPractise 72 = .ok (.getfield 28, 3) := by decide +kernel
theorem dX1_letPractise_75 : decode cX1_letPractise 75 = .ok (.if_icmp .ge 28, 3) := by decide +kernel
theorem dX1_letPractise_78 : decode cX1_letPractise 78 = .ok (.iload 5, 2) := by decide +kernel
theorem dX1_letPractise_80 : decode cX1_letPractise 80 = .ok (.iload_n 1, 1) := by decide +kernel
theorem dX1_letPractise_81 : decode cX1_letPractise 81 = .ok (.if_icmp .eq 16, 3) := by decide +kernel
theorem dX1_letPractise_84 : decode cX1_letPractise 84 = .ok (.aload_n 0, 1) := by decide +kernel
theorem dX1_letPractise_85 : decode cX1_letPractise 85 = .ok (.aload_n 0, 1) := by decide +kernel
theorem dX1_letPractise_86 : decode cX1_letPractise 86 = .ok (.getfield 24, 3) := by decide +kernel
theorem dX1_letPractise_89 : decode cX1_letPractise 89 = .ok (.iload 5, 2) := by decide +kernel
theorem dX1_letPractise_91 : decode cX1_letPractise 91 = .ok (.aaload, 1) := by decide +kernel
theorem dX1_letPractise_92 : decode cX1_letPractise 92 = .ok (.iload 4, 2) := by decide +kernel
theorem dX1_letPractise_94 : decode cX1_letPractise 94 = .ok (.invokevirtual 102, 3) := by decide +kernel
theorem dX1_letPractise_97 : decode cX1_letPractise 97 = .ok (.iinc 5 1, 3) := by decide +kernel
theorem dX1_letPractise_100 : decode cX1_letPractise 100 = .ok (.goto (-31), 3) := by decide +kernel
theorem dX1_letPractise_103 : decode cX1_letPractise 103 = .ok (.iload 4, 2) := by decide +kernel
theorem dX1_letPractise_105 : decode cX1_letPractise 105 = .ok (.ireturn, 1) := by decide +kernel
theorem dX1_findSung_0 : decode cX1_findSung 0 = .ok (.iconst 0, 1) := by decide +kernel
theorem dX1_findSung_1 : decode cX1_findSung 1 = .ok (.istore_n 3, 1) := by decide +kernel
theorem dX1_findSung_2 : decode cX1_findSung 2 = .ok (.aload_n 1, 1) := by decide +kernel
theorem dX1_findSung_3 : decode cX1_findSung 3 = .ok (.aload_n 1, 1) := by decide +kernel
theorem dX1_findSung_4 : decode cX1_findSung 4 = .ok (.getfield 95, 3) := by decide +kernel
theorem dX1_findSung_7 : decode cX1_findSung 7 = .ok (.invokevirtual 106, 3) := by decide +kernel
theorem dX1_findSung_10 : decode cX1_findSung 10 = .ok (.istore 4, 2) := by decide +kernel
theorem dX1_findSung_12 : decode cX1_findSung 12 = .ok (.iload_n 3, 1) := by decide +kernel
theorem dX1_findSung_13 : decode cX1_findSung 13 = .ok (.iload_n 2, 1) := by decide +kernel
theorem dX1_findSung_14 : decode cX1_findSung 14 = .ok (.if_icmp .ge 38, 3) := by decide +kernel
theorem dX1_findSung_17 : decode cX1_findSung 17 = .ok (.iload_n 3, 1) := by decide +kernel
theorem dX1_findSung_18 : decode cX1_findSung 18 = .ok (.bipush 40, 2) := by decide +kernel
theorem dX1_findSung_20 : decode cX1_findSung 20 = .ok (.if_icmp .ge 32, 3) := by decide +kernel
theorem dX1_findSung_23 : decode cX1_findSung 23 = .ok (.iload 4, 2) := by decide +kernel
theorem dX1_findSung_25 : decode cX1_findSung 25 = .ok (.bipush (-6), 2) := by decide +kernel
theorem dX1_findSung_27 : decode cX1_findSung 27 = .ok (.if_icmp .eq 25, 3) := by decide +kernel
theorem dX1_findSung_30 : decode cX1_findSung 30 = .ok (.aload_n 0, 1) := by decide +kernel
theorem dX1_findSung_31 : decode cX1_findSung 31 = .ok (.getfield 35, 3) := by decide +kernel
theorem dX1_findSung_34 : decode cX1_findSung 34 = .ok (.iload_n 3, 1) := by decide +kernel
theorem dX1_findSung_35 : decode cX1_findSung 35 = .ok (.iload 4, 2) := by decide +kernel
theorem dX1_findSung_37 : decode cX1_findSung 37 = .ok (.iastore, 1) := by decide +kernel
theorem dX1_findSung_38 : decode cX1_findSung 38 = .ok (.iinc 3 1, 3) := by decide +kernel
theorem dX1_findSung_41 : decode cX1_findSung 41 = .ok (.aload_n 1, 1) := by decide +kernel
theorem dX1_findSung_42 : decode cX1_findSung 42 = .ok (.iload 4, 2) := by decide +kernel
theorem dX1_findSung_44 : decode cX1_findSung 44 = .ok (.invokevirtual 106, 3) := by decide +kernel
theorem dX1_findSung_47 : decode cX1_findSung 47 = .ok (.istore 4, 2) := by decide +kernel
theorem dX1_findSung_49 : decode cX1_findSung 49 = .ok (.goto (-37), 3) := by decide +kernel
theorem dX1_findSung_52 : decode cX1_findSung 52 = .ok (.iload_n 3, 1) := by decide +kernel
theorem dX1_findSung_53 : decode cX1_findSung 53 = .ok (.ireturn, 1) := by decide +kernel
theorem dX1_singSungTo_0 : decode cX1_singSungTo 0 = .ok (.iconst 0, 1) := by decide +kernel
theorem dX1_singSungTo_1 : decode cX1_singSungTo 1 = .ok (.istore_n 3, 1) := by decide +kernel
theorem dX1_singSungTo_2 : decode cX1_singSungTo 2 = .ok (.iload_n 3, 1) := by decide +kernel
theorem dX1_singSungTo_3 : decode cX1_singSungTo 3 = .ok (.iload_n 2, 1) := by decide +kernel
theorem dX1_singSungTo_4 : decode cX1_singSungTo 4 = .ok (.if_icmp .ge 45, 3) := by decide +kernel
theorem dX1_singSungTo_7 : decode cX1_singSungTo 7 = .ok (.iload_n 3, 1) := by decide +kernel
theorem dX1_singSungTo_8 : decode cX1_singSungTo 8 = .ok (.bipush 40, 2) := by decide +kernel
theorem dX1_singSungTo_10 : decode cX1_singSungTo 10 = .ok (.if_icmp .ge 39, 3) := by decide +kernel
theorem dX1_singSungTo_13 : decode cX1_singSungTo 13 = .ok (.aload_n 0, 1) := by decide +kernel
theorem dX1_singSungTo_14 : decode cX1_singSungTo 14 = .ok (.aload_n 1, 1) := by decide +kernel
theorem dX1_singSungTo_15 : decode cX1_singSungTo 15 = .ok (.invokevirtual 75, 3) := by decide +kernel
theorem dX1_singSungTo_18 : decode cX1_singSungTo 18 = .ok (.ifCond .ne 31, 3) := by decide +kernel
theorem dX1_singSungTo_21 : decode cX1_singSungTo 21 = .ok (.aload_n 1, 1) := by decide +kernel
theorem dX1_singSungTo_22 : decode cX1_singSungTo 22 = .ok (.aload_n 0, 1) := by decide +kernel
theorem dX1_singSungTo_23 : decode cX1_singSungTo 23 = .ok (.getfield 35, 3) := by decide +kernel
theorem dX1_singSungTo_26 : decode cX1_singSungTo 26 = .ok (.iload_n 3, 1) := by decide +kernel
theorem dX1_singSungTo_27 : decode cX1_singSungTo 27 = .ok (.iaload, 1) := by decide +kernel
theorem dX1_singSungTo_28 : decode cX1_singSungTo 28 = .ok (.aload_n 0, 1) := by decide +kernel
theorem dX1_singSungTo_29 : decode cX1_singSungTo 29 = .ok (.getfield 9, 3) := by decide +kernel
theorem dX1_singSungTo_32 : decode cX1_singSungTo 32 = .ok (.iconst 2, 1) := by decide +kernel
theorem dX1_singSungTo_33 : decode cX1_singSungTo 33 = .ok (.iaload, 1) := by decide +kernel
theorem dX1_singSungTo_34 : decode cX1_singSungTo 34 = .ok (.aload_n 0, 1) := by decide +kernel
theorem dX1_singSungTo_35 : decode cX1_singSungTo 35 = .ok (.getfield 9, 3) := by decide +kernel
theorem dX1_singSungTo_38 : decode cX1_singSungTo 38 = .ok (.iconst 0, 1) := by decide +kernel
theorem dX1_singSungTo_39 : decode cX1_singSungTo 39 = .ok (.iaload, 1) := by decide +kernel
theorem dX1_singSungTo_40 : decode cX1_singSungTo 40 = .ok (.invokevirtual 87, 3) := by decide +kernel
theorem dX1_singSungTo_43 : decode cX1_singSungTo 43 = .ok (.iinc 3 1, 3) := by decide +kernel
theorem dX1_singSungTo_46 : decode cX1_singSungTo 46 = .ok (.goto (-44), 3) := by decide +kernel
theorem dX1_singSungTo_49 : decode cX1_singSungTo 49 = .ok (.return_, 1) := by decide +kernel
theorem dX1_passNight_0 : decode cX1_passNight 0 = .ok (.aload_n 0, 1) := by decide +kernel
theorem dX1_passNight_1 : decode cX1_passNight 1 = .ok (.getfield 32, 3) := by decide +kernel
theorem dX1_passNight_4 : decode cX1_passNight 4 = .ok (.sipush 999, 3) := by decide +kernel
theorem dX1_passNight_7 : decode cX1_passNight 7 = .ok (.if_icmp .lt 6, 3) := by decide +kernel
theorem dX1_passNight_10 : decode cX1_passNight 10 = .ok (.bipush (-5), 2) := by decide +kernel
theorem dX1_passNight_12 : decode cX1_passNight 12 = .ok (.ireturn, 1) := by decide +kernel
theorem dX1_passNight_13 : decode cX1_passNight 13 = .ok (.iconst 0, 1) := by decide +kernel
theorem dX1_passNight_14 : decode cX1_passNight 14 = .ok (.istore_n 1, 1) := by decide +kernel
theorem dX1_passNight_15 : decode cX1_passNight 15 = .ok (.iconst 0, 1) := by decide +kernel
theorem dX1_passNight_16 : decode cX1_passNight 16 = .ok (.istore_n 2, 1) := by decide +kernel
theorem dX1_passNight_17 : decode cX1_passNight 17 = .ok (.iload_n 2, 1) := by decide +kernel
theorem dX1_passNight_18 : decode cX1_passNight 18 = .ok (.aload_n 0, 1) := by decide +kernel
theorem dX1_passNight_19 : decode cX1_passNight 19 = .ok (.getfield 28, 3) := by decide +kernel
theorem dX1_passNight_22 : decode cX1_passNight 22 = .ok (.if_icmp .ge 27, 3) := by decide +kernel
theorem dX1_passNight_25 : decode cX1_passNight 25 = .ok (.iload_n 1, 1) := by decide +kernel
theorem dX1_passNight_26 : decode cX1_passNight 26 = .ok (.aload_n 0, 1) := by decide +kernel
theorem dX1_passNight_27 : decode cX1_passNight 27 = .ok (.getfield 24, 3) := by decide +kernel
theorem dX1_passNight_30 : decode cX1_passNight 30 = .ok (.iload_n 2, 1) := by decide +kernel
theorem dX1_passNight_31 : decode cX1_passNight 31 = .ok (.aaload, 1) := by decide +kernel
theorem dX1_passNight_32 : decode cX1_passNight 32 = .ok (.aload_n 0, 1) := by decide +kernel
theorem dX1_passNight_33 : decode cX1_passNight 33 = .ok (.getfield 9, 3) := by decide +kernel
theorem dX1_passNight_36 : decode cX1_passNight 36 = .ok (.iconst 1, 1) := by decide +kernel
theorem dX1_passNight_37 : decode cX1_passNight 37 = .ok (.iaload, 1) := by decide +kernel
theorem dX1_passNight_38 : decode cX1_passNight 38 = .ok (.invokevirtual 109, 3) := by decide +kernel
theorem dX1_passNight_41 : decode cX1_passNight 41 = .ok (.iadd, 1) := by decide +kernel
theorem dX1_passNight_42 : decode cX1_passNight 42 = .ok (.istore_n 1, 1) := by decide +kernel
theorem dX1_passNight_43 : decode cX1_passNight 43 = .ok (.iinc 2 1, 3) := by decide +kernel
theorem dX1_passNight_46 : decode cX1_passNight 46 = .ok (.goto (-29), 3) := by decide +kernel
theorem dX1_passNight_49 : decode cX1_passNight 49 = .ok (.aload_n 0, 1) := by decide +kernel
theorem dX1_passNight_50 : decode cX1_passNight 50 = .ok (.dup, 1) := by decide +kernel
theorem dX1_passNight_51 : decode cX1_passNight 51 = .ok (.getfield 32, 3) := by decide +kernel
theorem dX1_passNight_54 : decode cX1_passNight 54 = .ok (.iconst 1, 1) := by decide +kernel
theorem dX1_passNight_55 : decode cX1_passNight 55 = .ok (.iadd, 1) := by decide +kernel
theorem dX1_passNight_56 : decode cX1_passNight 56 = .ok (.putfield 32, 3) := by decide +kernel
theorem dX1_passNight_59 : decode cX1_passNight 59 = .ok (.iload_n 1, 1) := by decide +kernel
theorem dX1_passNight_60 : decode cX1_passNight 60 = .ok (.ireturn, 1) := by decide +kernel
theorem dX1_parrotsKnowing_0 : decode cX1_parrotsKnowing 0 = .ok (.iconst 0, 1) := by decide +kernel
theorem dX1_parrotsKnowing_1 : decode cX1_parrotsKnowing 1 = .ok (.istore_n 2, 1) := by decide +kernel
theorem dX1_parrotsKnowing_2 : decode cX1_parrotsKnowing 2 = .ok (.iconst 0, 1) := by decide +kernel
theorem dX1_parrotsKnowing_3 : decode cX1_parrotsKnowing 3 = .ok (.istore_n 3, 1) := by decide +kernel
theorem dX1_parrotsKnowing_4 : decode cX1_parrotsKnowing 4 = .ok (.iload_n 3, 1) := by decide +kernel
theorem dX1_parrotsKnowing_5 : decode cX1_parrotsKnowing 5 = .ok (.aload_n 0, 1) := by decide +kernel
theorem dX1_parrotsKnowing_6 : decode cX1_parrotsKnowing 6 = .ok (.getfield 28, 3) := by decide +kernel
theorem dX1_parrotsKnowing_9 : decode cX1_parrotsKnowing 9 = .ok (.if_icmp .ge 32, 3) := by decide +kernel
theorem dX1_parrotsKnowing_12 : decode cX1_parrotsKnowing 12 = .ok (.aload_n 0, 1) := by decide +kernel
theorem dX1_parrotsKnowing_13 : decode cX1_parrotsKnowing 13 = .ok (.getfield 18, 3) := by decide +kernel
theorem dX1_parrotsKnowing_16 : decode cX1_parrotsKnowing 16 = .ok (.aload_n 0, 1) := by decide +kernel
theorem dX1_parrotsKnowing_17 : decode cX1_parrotsKnowing 17 = .ok (.getfield 24, 3) := by decide +kernel
theorem dX1_parrotsKnowing_20 : decode cX1_parrotsKnowing 20 = .ok (.iload_n 3, 1) := by decide +kernel
theorem dX1_parrotsKnowing_21 : decode cX1_parrotsKnowing 21 = .ok (.aaload, 1) := by decide +kernel
theorem dX1_parrotsKnowing_22 : decode cX1_parrotsKnowing 22 = .ok (.iload_n 1, 1) := by decide +kernel
theorem dX1_parrotsKnowing_23 : decode cX1_parrotsKnowing 23 = .ok (.invokevirtual 112, 3) := by decide +kernel
theorem dX1_parrotsKnowing_26 : decode cX1_parrotsKnowing 26 = .ok (.ifCond .eq 9, 3) := by decide +kernel
theorem dX1_parrotsKnowing_29 : decode cX1_parrotsKnowing 29 = .ok (.iload_n 2, 1) := by decide +kernel
theorem dX1_parrotsKnowing_30 : decode cX1_parrotsKnowing 30 = .ok (.iconst 1, 1) := by decide +kernel
theorem dX1_parrotsKnowing_31 : decode cX1_parrotsKnowing 31 = .ok (.iload_n 3, 1) := by decide +kernel
theorem dX1_parrotsKnowing_32 : decode cX1_parrotsKnowing 32 = .ok (.ishl, 1) := by decide +kernel
theorem dX1_parrotsKnowing_33 : decode cX1_parrotsKnowing 33 = .ok (.ior, 1) := by decide +kernel
theorem dX1_parrotsKnowing_34 : decode cX1_parrotsKnowing 34 = .ok (.istore_n 2, 1) := by decide +kernel
theorem dX1_parrotsKnowing_35 : decode cX1_parrotsKnowing 35 = .ok (.iinc 3 1, 3) := by decide +kernel
theorem dX1_parrotsKnowing_38 : decode cX1_parrotsKnowing 38 = .ok (.goto (-34), 3) := by decide +kernel
theorem dX1_parrotsKnowing_41 : decode cX1_parrotsKnowing 41 = .ok (.iload_n 2, 1) := by decide +kernel
theorem dX1_parrotsKnowing_42 : decode cX1_parrotsKnowing 42 = .ok (.ireturn, 1) := by decide +kernel
theorem dX1_tiredParrots_0 : decode cX1_tiredParrots 0 = .ok (.iconst 0, 1) := by decide +kernel
theorem dX1_tiredParrots_1 : decode cX1_tiredParrots 1 = .ok (.istore_n 1, 1) := by decide +kernel
theorem dX1_tiredParrots_2 : decode cX1_tiredParrots 2 = .ok (.iconst 0, 1) := by decide +kernel
theorem dX1_tiredParrots_3 : decode cX1_tiredParrots 3 = .ok (.istore_n 2, 1) := by decide +kernel
theorem dX1_tiredParrots_4 : decode cX1_tiredParrots 4 = .ok (.iload_n 2, 1) := by decide +kernel
theorem dX1_tiredParrots_5 : decode cX1_tiredParrots 5 = .ok (.aload_n 0, 1) := by decide +kernel
theorem dX1_tiredParrots_6 : decode cX1_tiredParrots 6 = .ok (.getfield 28, 3) := by decide +kernel
theorem dX1_tiredParrots_9 : decode cX1_tiredParrots 9 = .ok (.if_icmp .ge 28, 3) := by decide +kernel
theorem dX1_tiredParrots_12 : decode cX1_tiredParrots 12 = .ok (.aload_n 0, 1) := by decide +kernel
theorem dX1_tiredParrots_13 : decode cX1_tiredParrots 13 = .ok (.aload_n 0, 1) := by decide +kernel
theorem dX1_tiredParrots_14 : decode cX1_tiredParrots 14 = .ok (.getfield 24, 3) := by decide +kernel
theorem dX1_tiredParrots_17 : decode cX1_tiredParrots 17 = .ok (.iload_n 2, 1) := by decide +kernel
theorem dX1_tiredParrots_18 : decode cX1_tiredParrots 18 = .ok (.aaload, 1) := by decide +kernel
theorem dX1_tiredParrots_19 : decode cX1_tiredParrots 19 = .ok (.invokevirtual 75, 3) := by decide +kernel
theorem dX1_tiredParrots_22 : decode cX1_tiredParrots 22 = .ok (.ifCond .eq 9, 3) := by decide +kernel
theorem dX1_tiredParrots_25 : decode cX1_tiredParrots 25 = .ok (.iload_n 1, 1) := by decide +kernel
theorem dX1_tiredParrots_26 : decode cX1_tiredParrots 26 = .ok (.iconst 1, 1) := by decide +kernel
theorem dX1_tiredParrots_27 : decode cX1_tiredParrots 27 = .ok (.iload_n 2, 1) := by decide +kernel
theorem dX1_tiredParrots_28 : decode cX1_tiredParrots 28 = .ok (.ishl, 1) := by decide +kernel
theorem dX1_tiredParrots_29 : decode cX1_tiredParrots 29 = .ok (.ior, 1) := by decide +kernel
theorem dX1_tiredParrots_30 : decode cX1_tiredParrots 30 = .ok (.istore_n 1, 1) := by decide +kernel
theorem dX1_tiredParrots_31 : decode cX1_tiredParrots 31 = .ok (.iinc 2 1, 3) := by decide +kernel
theorem dX1_tiredParrots_34 : decode cX1_tiredParrots 34 = .ok (.goto (-30), 3) := by decide +kernel
theorem dX1_tiredParrots_37 : decode cX1_tiredParrots 37 = .ok (.iload_n 1, 1) := by decide +kernel
theorem dX1_tiredParrots_38 : decode cX1_tiredParrots 38 = .ok (.ireturn, 1) := by decide +kernel
theorem dX1_heardByAll_0 : decode cX1_heardByAll 0 = .ok (.iconst 0, 1) := by decide +kernel
theorem dX1_heardByAll_1 : decode cX1_heardByAll 1 = .ok (.istore_n 1, 1) := by decide +kernel
theorem dX1_heardByAll_2 : decode cX1_heardByAll 2 = .ok (.iconst 0, 1) := by decide +kernel
theorem dX1_heardByAll_3 : decode cX1_heardByAll 3 = .ok (.istore_n 2, 1) := by decide +kernel
theorem dX1_heardByAll_4 : decode cX1_heardByAll 4 = .ok (.iload_n 2, 1) := by decide +kernel
theorem dX1_heardByAll_5 : decode cX1_heardByAll 5 = .ok (.aload_n 0, 1) := by decide +kernel
theorem dX1_heardByAll_6 : decode cX1_heardByAll 6 = .ok (.getfield 28, 3) := by decide +kernel
theorem dX1_heardByAll_9 : decode cX1_heardByAll 9 = .ok (.if_icmp .ge 21, 3) := by decide +kernel
theorem dX1_heardByAll_12 : decode cX1_heardByAll 12 = .ok (.iload_n 1, 1) := by decide +kernel
theorem dX1_heardByAll_13 : decode cX1_heardByAll 13 = .ok (.aload_n 0, 1) := by decide +kernel
theorem dX1_heardByAll_14 : decode cX1_heardByAll 14 = .ok (.getfield 24, 3) := by decide +kernel
theorem dX1_heardByAll_17 : decode cX1_heardByAll 17 = .ok (.iload_n 2, 1) := by decide +kernel
theorem dX1_heardByAll_18 : decode cX1_heardByAll 18 = .ok (.aaload, 1) := by decide +kernel
theorem dX1_heardByAll_19 : decode cX1_heardByAll 19 = .ok (.getfield 116, 3) := by decide +kernel
theorem dX1_heardByAll_22 : decode cX1_heardByAll 22 = .ok (.iadd, 1) := by decide +kernel
theorem dX1_heardByAll_23 : decode cX1_heardByAll 23 = .ok (.istore_n 1, 1) := by decide +kernel
theorem dX1_heardByAll_24 : decode cX1_heardByAll 24 = .ok (.iinc 2 1, 3) := by decide +kernel
theorem dX1_heardByAll_27 : decode cX1_heardByAll 27 = .ok (.goto (-23), 3) := by decide +kernel
theorem dX1_heardByAll_30 : decode cX1_heardByAll 30 = .ok (.iload_n 1, 1) := by decide +kernel
theorem dX1_heardByAll_31 : decode cX1_heardByAll 31 = .ok (.ireturn, 1) := by decide +kernel
theorem dX1_linksOfAll_0 : decode cX1_linksOfAll 0 = .ok (.iconst 0, 1) := by decide +kernel
theorem dX1_linksOfAll_1 : decode cX1_linksOfAll 1 = .ok (.istore_n 1, 1) := by decide +kernel
theorem dX1_linksOfAll_2 : decode cX1_linksOfAll 2 = .ok (.iconst 0, 1) := by decide +kernel
theorem dX1_linksOfAll_3 : decode cX1_linksOfAll 3 = .ok (.istore_n 2, 1) := by decide +kernel
theorem dX1_linksOfAll_4 : decode cX1_linksOfAll 4 = .ok (.iload_n 2, 1) := by decide +kernel
theorem dX1_linksOfAll_5 : decode cX1_linksOfAll 5 = .ok (.aload_n 0, 1) := by decide +kernel
theorem dX1_linksOfAll_6 : decode cX1_linksOfAll 6 = .ok (.getfield 28, 3) := by decide +kernel
theorem dX1_linksOfAll_9 : decode cX1_linksOfAll 9 = .ok (.if_icmp .ge 21, 3) := by decide +kernel
theorem dX1_linksOfAll_12 : decode cX1_linksOfAll 12 = .ok (.iload_n 1, 1) := by decide +kernel
theorem dX1_linksOfAll_13 : decode cX1_linksOfAll 13 = .ok (.aload_n 0, 1) := by decide +kernel
theorem dX1_linksOfAll_14 : decode cX1_linksOfAll 14 = .ok (.getfield 24, 3) := by decide +kernel
theorem dX1_linksOfAll_17 : decode cX1_linksOfAll 17 = .ok (.iload_n 2, 1) := by decide +kernel
theorem dX1_linksOfAll_18 : decode cX1_linksOfAll 18 = .ok (.aaload, 1) := by decide +kernel
theorem dX1_linksOfAll_19 : decode cX1_linksOfAll 19 = .ok (.getfield 119, 3) := by decide +kernel
theorem dX1_linksOfAll_22 : decode cX1_linksOfAll 22 = .ok (.iadd, 1) := by decide +kernel
theorem dX1_linksOfAll_23 : decode cX1_linksOfAll 23 = .ok (.istore_n 1, 1) := by decide +kernel
theorem dX1_linksOfAll_24 : decode cX1_linksOfAll 24 = .ok (.iinc 2 1, 3) := by decide +kernel
theorem dX1_linksOfAll_27 : decode cX1_linksOfAll 27 = .ok (.goto (-23), 3) := by decide +kernel
theorem dX1_linksOfAll_30 : decode cX1_linksOfAll 30 = .ok (.iload_n 1, 1) := by decide +kernel
theorem dX1_linksOfAll_31 : decode cX1_linksOfAll 31 = .ok (.ireturn, 1) := by decide +kernel
theorem dX1_forgottenByAll_0 : decode cX1_forgottenByAll 0 = .ok (.iconst 0, 1) := by decide +kernel
theorem dX1_forgottenByAll_1 : decode cX1_forgottenByAll 1 = .ok (.istore_n 1, 1) := by decide +kernel
theorem dX1_forgottenByAll_2 : decode cX1_forgottenByAll 2 = .ok (.iconst 0, 1) := by decide +kernel
theorem dX1_forgottenByAll_3 : decode cX1_forgottenByAll 3 = .ok (.istore_n 2, 1) := by decide +kernel
theorem dX1_forgottenByAll_4 : decode cX1_forgottenByAll 4 = .ok (.iload_n 2, 1) := by decide +kernel
theorem dX1_forgottenByAll_5 : decode cX1_forgottenByAll 5 = .ok (.aload_n 0, 1) := by decide +kernel
theorem dX1_forgottenByAll_6 : decode cX1_forgottenByAll 6 = .ok (.getfield 28, 3) := by decide +kernel
theorem dX1_forgottenByAll_9 : decode cX1_forgottenByAll 9 = .ok (.if_icmp .ge 21, 3) := by decide +kernel
theorem dX1_forgottenByAll_12 : decode cX1_forgottenByAll 12 = .ok (.iload_n 1, 1) := by decide +kernel
theorem dX1_forgottenByAll_13 : decode cX1_forgottenByAll 13 = .ok (.aload_n 0, 1) := by decide +kernel
theorem dX1_forgottenByAll_14 : decode cX1_forgottenByAll 14 = .ok (.getfield 24, 3) := by decide +kernel
theorem dX1_forgottenByAll_17 : decode cX1_forgottenByAll 17 = .ok (.iload_n 2, 1) := by decide +kernel
theorem dX1_forgottenByAll_18 : decode cX1_forgottenByAll 18 = .ok (.aaload, 1) := by decide +kernel
theorem dX1_forgottenByAll_19 : decode cX1_forgottenByAll 19 = .ok (.getfield 122, 3) := by decide +kernel
theorem dX1_forgottenByAll_22 : decode cX1_forgottenByAll 22 = .ok (.iadd, 1) := by decide +kernel
theorem dX1_forgottenByAll_23 : decode cX1_forgottenByAll 23 = .ok (.istore_n 1, 1) := by decide +kernel
theorem dX1_forgottenByAll_24 : decode cX1_forgottenByAll 24 = .ok (.iinc 2 1, 3) := by decide +kernel
theorem dX1_forgottenByAll_27 : decode cX1_forgottenByAll 27 = .ok (.goto (-23), 3) := by decide +kernel
theorem dX1_forgottenByAll_30 : decode cX1_forgottenByAll 30 = .ok (.iload_n 1, 1) := by decide +kernel
theorem dX1_forgottenByAll_31 : decode cX1_forgottenByAll 31 = .ok (.ireturn, 1) := by decide +kernel
theorem dX2_init_0 : decode cX2_init 0 = .ok (.aload_n 0, 1) := by decide +kernel
theorem dX2_init_1 : decode cX2_init 1 = .ok (.invokespecial 3, 3) := by decide +kernel
theorem dX2_init_4 : decode cX2_init 4 = .ok (.aload_n 0, 1) := by decide +kernel
theorem dX2_init_5 : decode cX2_init 5 = .ok (.bipush 80, 2) := by decide +kernel
theorem dX2_init_7 : decode cX2_init 7 = .ok (.newarray .char, 2) := by decide +kernel
theorem dX2_init_9 : decode cX2_init 9 = .ok (.putfield 11, 3) := by decide +kernel
theorem dX2_init_12 : decode cX2_init 12 = .ok (.aload_n 0, 1) := by decide +kernel
theorem dX2_init_13 : decode cX2_init 13 = .ok (.iconst 0, 1) := by decide +kernel
theorem dX2_init_14 : decode cX2_init 14 = .ok (.putfield 15, 3) := by decide +kernel
theorem dX2_init_17 : decode cX2_init 17 = .ok (.return_, 1) := by decide +kernel
theorem dX2_signAt_0 : decode cX2_signAt 0 = .ok (.iload_n 1, 1) := by decide +kernel
theorem dX2_signAt_1 : decode cX2_signAt 1 = .ok (.ifCond .lt 20, 3) := by decide +kernel
theorem dX2_signAt_4 : decode cX2_signAt 4 = .ok (.iload_n 1, 1) := by decide +kernel
theorem dX2_signAt_5 : decode cX2_signAt 5 = .ok (.aload_n 0, 1) := by decide +kernel
theorem dX2_signAt_6 : decode cX2_signAt 6 = .ok (.getfield 15, 3) := by decide +kernel
theorem dX2_signAt_9 : decode cX2_signAt 9 = .ok (.if_icmp .ge 12, 3) := by decide +kernel
theorem dX2_signAt_12 : decode cX2_signAt 12 = .ok (.aload_n 0, 1) := by decide +kernel
theorem dX2_signAt_13 : decode cX2_signAt 13 = .ok (.getfield 11, 3) := by decide +kernel
theorem dX2_signAt_16 : decode cX2_signAt 16 = .ok (.iload_n 1, 1) := by decide +kernel
theorem dX2_signAt_17 : decode cX2_signAt 17 = .ok (.caload, 1) := by decide +kernel
theorem dX2_signAt_18 : decode cX2_signAt 18 = .ok (.goto 4, 3) := by decide +kernel
theorem dX2_signAt_21 : decode cX2_signAt 21 = .ok (.iconst 0, 1) := by decide +kernel
theorem dX2_signAt_22 : decode cX2_signAt 22 = .ok (.ireturn, 1) := by decide +kernel
theorem dX2_append_0 : decode cX2_append 0 = .ok (.lload_n 1, 1) := by decide +kernel
theorem dX2_append_1 : decode cX2_append 1 = .ok (.invokestatic 19, 3) := by decide +kernel
theorem dX2_append_4 : decode cX2_append 4 = .ok (.istore_n 3, 1) := by decide +kernel
theorem dX2_append_5 : decode cX2_append 5 = .ok (.iload_n 3, 1) := by decide +kernel
theorem dX2_append_6 : decode cX2_append 6 = .ok (.ifCond .ne 6, 3) := by decide +kernel
theorem dX2_append_9 : decode cX2_append 9 = .ok (.bipush (-2), 2) := by decide +kernel
theorem dX2_append_11 : decode cX2_append 11 = .ok (.ireturn, 1) := by decide +kernel
theorem dX2_append_12 : decode cX2_append 12 = .ok (.aload_n 0, 1) := by decide +kernel
theorem dX2_append_13 : decode cX2_append 13 = .ok (.getfield 15, 3) := by decide +kernel
theorem dX2_append_16 : decode cX2_append 16 = .ok (.iload_n 3, 1) := by decide +kernel
theorem dX2_append_17 : decode cX2_append 17 = .ok (.iadd, 1) := by decide +kernel
theorem dX2_append_18 : decode cX2_append 18 = .ok (.bipush 80, 2) := by decide +kernel
theorem dX2_append_20 : decode cX2_append 20 = .ok (.if_icmp .le 6, 3) := by decide +kernel
theorem dX2_append_23 : decode cX2_append 23 = .ok (.bipush (-4), 2) := by decide +kernel
theorem dX2_append_25 : decode cX2_append 25 = .ok (.ireturn, 1) := by decide +kernel
theorem dX2_append_26 : decode cX2_append 26 = .ok (.iload_n 3, 1) := by decide +kernel
theorem dX2_append_27 : decode cX2_append 27 = .ok (.iconst 1, 1) := by decide +kernel
theorem dX2_append_28 : decode cX2_append 28 = .ok (.isub, 1) := by decide +kernel
theorem dX2_append_29 : decode cX2_append 29 = .ok (.istore 4, 2) := by decide +kernel
theorem dX2_append_31 : decode cX2_append 31 = .ok (.iload 4, 2) := by decide +kernel
theorem dX2_append_33 : decode cX2_append 33 = .ok (.ifCond .lt 41, 3) := by decide +kernel
theorem dX2_append_36 : decode cX2_append 36 = .ok (.aload_n 0, 1) := by decide +kernel
theorem dX2_append_37 : decode cX2_append 37 = .ok (.getfield 11, 3) := by decide +kernel
theorem dX2_append_40 : decode cX2_append 40 = .ok (.aload_n 0, 1) := by decide +kernel
theorem dX2_append_41 : decode cX2_append 41 = .ok (.getfield 15, 3) := by decide +kernel
theorem dX2_append_44 : decode cX2_append 44 = .ok (.lload_n 1, 1) := by decide +kernel
theorem dX2_append_45 : decode cX2_append 45 = .ok (.bipush 8, 2) := by decide +kernel
theorem dX2_append_47 : decode cX2_append 47 = .ok (.iload 4, 2) := by decide +kernel
theorem dX2_append_49 : decode cX2_append 49 = .ok (.imul, 1) := by decide +kernel
theorem dX2_append_50 : decode cX2_append 50 = .ok (.lushr, 1) := by decide +kernel
theorem dX2_append_51 : decode cX2_append 51 = .ok (.ldc2_w 23, 3) := by decide +kernel
theorem dX2_append_54 : decode cX2_append 54 = .ok (.land, 1) := by decide +kernel
theorem dX2_append_55 : decode cX2_append 55 = .ok (.l2i, 1) := by decide +kernel
theorem dX2_append_56 : decode cX2_append 56 = .ok (.i2c, 1) := by decide +kernel
theorem dX2_append_57 : decode cX2_append 57 = .ok (.castore, 1) := by decide +kernel
theorem dX2_append_58 : decode cX2_append 58 = .ok (.aload_n 0, 1) := by decide +kernel
theorem dX2_append_59 : decode cX2_append 59 = .ok (.dup, 1) := by decide +kernel
theorem dX2_append_60 : decode cX2_append 60 = .ok (.getfield 15, 3) := by decide +kernel
theorem dX2_append_63 : decode cX2_append 63 = .ok (.iconst 1, 1) := by decide +kernel
theorem dX2_append_64 : decode cX2_append 64 = .ok (.iadd, 1) := by decide +kernel
theorem dX2_append_65 : decode cX2_append 65 = .ok (.putfield 15, 3) := by decide +kernel
theorem dX2_append_68 : decode cX2_append 68 = .ok (.iinc 4 (-1), 3) := by decide +kernel
theorem dX2_append_71 : decode cX2_append 71 = .ok (.goto (-40), 3) := by decide +kernel
theorem dX2_append_74 : decode cX2_append 74 = .ok (.aload_n 0, 1) := by decide +kernel
theorem dX2_append_75 : decode cX2_append 75 = .ok (.getfield 15, 3) := by decide +kernel
theorem dX2_append_78 : decode cX2_append 78 = .ok (.ireturn, 1) := by decide +kernel
theorem dX2_sizeOf_0 : decode cX2_sizeOf 0 = .ok (.lload_n 0, 1) := by decide +kernel
theorem dX2_sizeOf_1 : decode cX2_sizeOf 1 = .ok (.lstore_n 2, 1) := by decide +kernel
theorem dX2_sizeOf_2 : decode cX2_sizeOf 2 = .ok (.iconst 0, 1) := by decide +kernel
theorem dX2_sizeOf_3 : decode cX2_sizeOf 3 = .ok (.istore 4, 2) := by decide +kernel
theorem dX2_sizeOf_5 : decode cX2_sizeOf 5 = .ok (.iload 4, 2) := by decide +kernel
theorem dX2_sizeOf_7 : decode cX2_sizeOf 7 = .ok (.bipush 8, 2) := by decide +kernel
theorem dX2_sizeOf_9 : decode cX2_sizeOf 9 = .ok (.if_icmp .ge 51, 3) := by decide +kernel
theorem dX2_sizeOf_12 : decode cX2_sizeOf 12 = .ok (.lload_n 2, 1) := by decide +kernel
theorem dX2_sizeOf_13 : decode cX2_sizeOf 13 = .ok (.ldc2_w 23, 3) := by decide +kernel
theorem dX2_sizeOf_16 : decode cX2_sizeOf 16 = .ok (.land, 1) := by decide +kernel
theorem dX2_sizeOf_17 : decode cX2_sizeOf 17 = .ok (.lconst 0, 1) := by decide +kernel
theorem dX2_sizeOf_18 : decode cX2_sizeOf 18 = .ok (.lcmp, 1) := by decide +kernel
theorem dX2_sizeOf_19 : decode cX2_sizeOf 19 = .ok (.ifCond .eq 41, 3) := by decide +kernel
theorem dX2_sizeOf_22 : decode cX2_sizeOf 22 = .ok (.lload_n 2, 1) := by decide +kernel
theorem dX2_sizeOf_23 : decode cX2_sizeOf 23 = .ok (.ldc2_w 23, 3) := by decide +kernel
theorem dX2_sizeOf_26 : decode cX2_sizeOf 26 = .ok (.land, 1) := by decide +kernel
theorem dX2_sizeOf_27 : decode cX2_sizeOf 27 = .ok (.lstore 5, 2) := by decide +kernel
theorem dX2_sizeOf_29 : decode cX2_sizeOf 29 = .ok (.lload 5, 2) := by decide +kernel
theorem dX2_sizeOf_31 : decode cX2_sizeOf 31 = .ok (.ldc2_w 25, 3) := by decide +kernel
theorem dX2_sizeOf_34 : decode cX2_sizeOf 34 = .ok (.lcmp, 1) := by decide +kernel
theorem dX2_sizeOf_35 : decode cX2_sizeOf 35 = .ok (.ifCond .lt 12, 3) := by decide +kernel
theorem dX2_sizeOf_38 : decode cX2_sizeOf 38 = .ok (.lload 5, 2) := by decide +kernel
theorem dX2_sizeOf_40 : decode cX2_sizeOf 40 = .ok (.ldc2_w 27, 3) := by decide +kernel
theorem dX2_sizeOf_43 : decode cX2_sizeOf 43 = .ok (.lcmp, 1) := by decide +kernel
theorem dX2_sizeOf_44 : decode cX2_sizeOf 44 = .ok (.ifCond .le 5, 3) := by decide +kernel
theorem dX2_sizeOf_47 : decode cX2_sizeOf 47 = .ok (.iconst 0, 1) := by decide +kernel
theorem dX2_sizeOf_48 : decode cX2_sizeOf 48 = .ok (.ireturn, 1) := by decide +kernel
theorem dX2_sizeOf_49 : decode cX2_sizeOf 49 = .ok (.lload_n 2, 1) := by decide +kernel
theorem dX2_sizeOf_50 : decode cX2_sizeOf 50 = .ok (.bipush 8, 2) := by decide +kernel
theorem dX2_sizeOf_52 : decode cX2_sizeOf 52 = .ok (.lushr, 1) := by decide +kernel
theorem dX2_sizeOf_53 : decode cX2_sizeOf 53 = .ok (.lstore_n 2, 1) := by decide +kernel
theorem dX2_sizeOf_54 : decode cX2_sizeOf 54 = .ok (.iinc 4 1, 3) := by decide +kernel
theorem dX2_sizeOf_57 : decode cX2_sizeOf 57 = .ok (.goto (-52), 3) := by decide +kernel
theorem dX2_sizeOf_60 : decode cX2_sizeOf 60 = .ok (.lload_n 2, 1) := by decide +kernel
theorem dX2_sizeOf_61 : decode cX2_sizeOf 61 = .ok (.lconst 0, 1) := by decide +kernel
theorem dX2_sizeOf_62 : decode cX2_sizeOf 62 = .ok (.lcmp, 1) := by decide +kernel
theorem dX2_sizeOf_63 : decode cX2_sizeOf 63 = .ok (.ifCond .ne 8, 3) := by decide +kernel
theorem dX2_sizeOf_66 : decode cX2_sizeOf 66 = .ok (.iload 4, 2) := by decide +kernel
theorem dX2_sizeOf_68 : decode cX2_sizeOf 68 = .ok (.goto 4, 3) := by decide +kernel
theorem dX2_sizeOf_71 : decode cX2_sizeOf 71 = .ok (.iconst 0, 1) := by decide +kernel
theorem dX2_sizeOf_72 : decode cX2_sizeOf 72 = .ok (.ireturn, 1) := by decide +kernel
theorem dX3_init_0 : decode cX3_init 0 = .ok (.aload_n 0, 1) := by decide +kernel
theorem dX3_init_1 : decode cX3_init 1 = .ok (.invokespecial 3, 3) := by decide +kernel
theorem dX3_init_4 : decode cX3_init 4 = .ok (.aload_n 0, 1) := by decide +kernel
theorem dX3_init_5 : decode cX3_init 5 = .ok (.iconst 4, 1) := by decide +kernel
theorem dX3_init_6 : decode cX3_init 6 = .ok (.bipush 61, 2) := by decide +kernel
theorem dX3_init_8 : decode cX3_init 8 = .ok (.multianewarray 11 2, 4) := by decide +kernel
theorem dX3_init_12 : decode cX3_init 12 = .ok (.putfield 13, 3) := by decide +kernel
theorem dX3_init_15 : decode cX3_init 15 = .ok (.aload_n 0, 1) := by decide +kernel
theorem dX3_init_16 : decode cX3_init 16 = .ok (.iconst 0, 1) := by decide +kernel
theorem dX3_init_17 : decode cX3_init 17 = .ok (.putfield 16, 3) := by decide +kernel
theorem dX3_init_20 : decode cX3_init 20 = .ok (.aload_n 0, 1) := by decide +kernel
theorem dX3_init_21 : decode cX3_init 21 = .ok (.bipush (-6), 2) := by decide +kernel
theorem dX3_init_23 : decode cX3_init 23 = .ok (.putfield 20, 3) := by decide +kernel
theorem dX3_init_26 : decode cX3_init 26 = .ok (.aload_n 0, 1) := by decide +kernel
theorem dX3_init_27 : decode cX3_init 27 = .ok (.iconst 0, 1) := by decide +kernel
theorem dX3_init_28 : decode cX3_init 28 = .ok (.putfield 23, 3) := by decide +kernel
theorem dX3_init_31 : decode cX3_init 31 = .ok (.aload_n 0, 1) := by decide +kernel
theorem dX3_init_32 : decode cX3_init 32 = .ok (.iconst 0, 1) := by decide +kernel
theorem dX3_init_33 : decode cX3_init 33 = .ok (.putfield 26, 3) := by decide +kernel
theorem dX3_init_36 : decode cX3_init 36 = .ok (.aload_n 0, 1) := by decide +kernel
theorem dX3_init_37 : decode cX3_init 37 = .ok (.iconst 0, 1) := by decide +kernel
theorem dX3_init_38 : decode cX3_init 38 = .ok (.putfield 29, 3) := by decide +kernel
theorem dX3_init_41 : decode cX3_init 41 = .ok (.return_, 1) := by decide +kernel
theorem dX3_copyFrom_0 : decode cX3_copyFrom 0 = .ok (.iconst 0, 1) := by decide +kernel
theorem dX3_copyFrom_1 : decode cX3_copyFrom 1 = .ok (.istore_n 2, 1) := by decide +kernel
theorem dX3_copyFrom_2 : decode cX3_copyFrom 2 = .ok (.iload_n 2, 1) := by decide +kernel
theorem dX3_copyFrom_3 : decode cX3_copyFrom 3 = .ok (.iconst 4, 1) := by decide +kernel
theorem dX3_copyFrom_4 : decode cX3_copyFrom 4 = .ok (.if_icmp .ge 28, 3) := by decide +kernel
theorem dX3_copyFrom_7 : decode cX3_copyFrom 7 = .ok (.aload_n 1, 1) := by decide +kernel
theorem dX3_copyFrom_8 : decode cX3_copyFrom 8 = .ok (.getfield 13, 3) := by decide +kernel
theorem dX3_copyFrom_11 : decode cX3_copyFrom 11 = .ok (.iload_n 2, 1) := by decide +kernel
theorem dX3_copyFrom_12 : decode cX3_copyFrom 12 = .ok (.aaload, 1) := by decide +kernel
theorem dX3_copyFrom_13 : decode cX3_copyFrom 13 = .ok (.iconst 0, 1) := by decide +kernel
theorem dX3_copyFrom_14 : decode cX3_copyFrom 14 = .ok (.aload_n 0, 1) := by decide +kernel
theorem dX3_copyFrom_15 : decode cX3_copyFrom 15 = .ok (.getfield 13, 3) := by decide +kernel
theorem dX3_copyFrom_18 : decode cX3_copyFrom 18 = .ok (.iload_n 2, 1) := by decide +kernel
theorem dX3_copyFrom_19 : decode cX3_copyFrom 19 = .ok (.aaload, 1) := by decide +kernel
theorem dX3_copyFrom_20 : decode cX3_copyFrom 20 = .ok (.iconst 0, 1) := by decide +kernel
theorem dX3_copyFrom_21 : decode cX3_copyFrom 21 = .ok (.bipush 61, 2) := by decide +kernel
theorem dX3_copyFrom_23 : decode cX3_copyFrom 23 = .ok (.invokestatic 32, 3) := by decide +kernel
theorem dX3_copyFrom_26 : decode cX3_copyFrom 26 = .ok (.iinc 2 1, 3) := by decide +kernel
theorem dX3_copyFrom_29 : decode cX3_copyFrom 29 = .ok (.goto (-27), 3) := by decide +kernel
theorem dX3_copyFrom_32 : decode cX3_copyFrom 32 = .ok (.aload_n 0, 1) := by decide +kernel
theorem dX3_copyFrom_33 : decode cX3_copyFrom 33 = .ok (.aload_n 1, 1) := by decide +kernel
theorem dX3_copyFrom_34 : decode cX3_copyFrom 34 = .ok (.getfield 16, 3) := by decide +kernel
theorem dX3_copyFrom_37 : decode cX3_copyFrom 37 = .ok (.putfield 16, 3) := by decide +kernel
theorem dX3_copyFrom_40 : decode cX3_copyFrom 40 = .ok (.aload_n 0, 1) := by decide +kernel
theorem dX3_copyFrom_41 : decode cX3_copyFrom 41 = .ok (.aload_n 1, 1) := by decide +kernel
theorem dX3_copyFrom_42 : decode cX3_copyFrom 42 = .ok (.getfield 20, 3) := by decide +kernel
theorem dX3_copyFrom_45 : decode cX3_copyFrom 45 = .ok (.putfield 20, 3) := by decide +kernel
theorem dX3_copyFrom_48 : decode cX3_copyFrom 48 = .ok (.aload_n 0, 1) := by decide +kernel
theorem dX3_copyFrom_49 : decode cX3_copyFrom 49 = .ok (.aload_n 1, 1) := by decide +kernel
theorem dX3_copyFrom_50 : decode cX3_copyFrom 50 = .ok (.getfield 23, 3) := by decide +kernel
theorem dX3_copyFrom_53 : decode cX3_copyFrom 53 = .ok (.putfield 23, 3) := by decide +kernel
theorem dX3_copyFrom_56 : decode cX3_copyFrom 56 = .ok (.aload_n 0, 1) := by decide +kernel
theorem dX3_copyFrom_57 : decode cX3_copyFrom 57 = .ok (.aload_n 1, 1) := by decide +kernel
theorem dX3_copyFrom_58 : decode cX3_copyFrom 58 = .ok (.getfield 26, 3) := by decide +kernel
theorem dX3_copyFrom_61 : decode cX3_copyFrom 61 = .ok (.putfield 26, 3) := by decide +kernel
theorem dX3_copyFrom_64 : decode cX3_copyFrom 64 = .ok (.aload_n 0, 1) := by decide +kernel
theorem dX3_copyFrom_65 : decode cX3_copyFrom 65 = .ok (.aload_n 1, 1) := by decide +kernel
theorem dX3_copyFrom_66 : decode cX3_copyFrom 66 = .ok (.getfield 29, 3) := by decide +kernel
theorem dX3_copyFrom_69 : decode cX3_copyFrom 69 = .ok (.putfield 29, 3) := by decide +kernel
theorem dX3_copyFrom_72 : decode cX3_copyFrom 72 = .ok (.return_, 1) := by decide +kernel
theorem dX3_hear_0 : decode cX3_hear 0 = .ok (.aload_n 0, 1) := by decide +kernel
theorem dX3_hear_1 : decode cX3_hear 1 = .ok (.getfield 20, 3) := by decide +kernel
theorem dX3_hear_4 : decode cX3_hear 4 = .ok (.bipush (-6), 2) := by decide +kernel
theorem dX3_hear_6 : decode cX3_hear 6 = .ok (.if_icmp .eq 39, 3) := by decide +kernel
theorem dX3_hear_9 : decode cX3_hear 9 = .ok (.aload_n 0, 1) := by decide +kernel
theorem dX3_hear_10 : decode cX3_hear 10 = .ok (.aload_n 0, 1) := by decide +kernel
theorem dX3_hear_11 : decode cX3_hear 11 = .ok (.getfield 20, 3) := by decide +kernel
theorem dX3_hear_14 : decode cX3_hear 14 = .ok (.iload_n 1, 1) := by decide +kernel
theorem dX3_hear_15 : decode cX3_hear 15 = .ok (.iload_n 2, 1) := by decide +kernel
theorem dX3_hear_16 : decode cX3_hear 16 = .ok (.invokevirtual 38, 3) := by decide +kernel
theorem dX3_hear_19 : decode cX3_hear 19 = .ok (.aload_n 0, 1) := by decide +kernel
theorem dX3_hear_20 : decode cX3_hear 20 = .ok (.getfield 16, 3) := by decide +kernel
theorem dX3_hear_23 : decode cX3_hear 23 = .ok (.iload_n 3, 1) := by decide +kernel
theorem dX3_hear_24 : decode cX3_hear 24 = .ok (.if_icmp .le 21, 3) := by decide +kernel
theorem dX3_hear_27 : decode cX3_hear 27 = .ok (.aload_n 0, 1) := by decide +kernel
theorem dX3_hear_28 : decode cX3_hear 28 = .ok (.aload_n 0, 1) := by decide +kernel
theorem dX3_hear_29 : decode cX3_hear 29 = .ok (.invokevirtual 42, 3) := by decide +kernel
theorem dX3_hear_32 : decode cX3_hear 32 = .ok (.invokevirtual 46, 3) := by decide +kernel
theorem dX3_hear_35 : decode cX3_hear 35 = .ok (.aload_n 0, 1) := by decide +kernel
theorem dX3_hear_36 : decode cX3_hear 36 = .ok (.dup, 1) := by decide +kernel
theorem dX3_hear_37 : decode cX3_hear 37 = .ok (.getfield 29, 3) := by decide +kernel
theorem dX3_hear_40 : decode cX3_hear 40 = .ok (.iconst 1, 1) := by decide +kernel
theorem dX3_hear_41 : decode cX3_hear 41 = .ok (.iadd, 1) := by decide +kernel
theorem dX3_hear_42 : decode cX3_hear 42 = .ok (.putfield 29, 3) := by decide +kernel
theorem dX3_hear_45 : decode cX3_hear 45 = .ok (.aload_n 0, 1) := by decide +kernel
theorem dX3_hear_46 : decode cX3_hear 46 = .ok (.iload_n 1, 1) := by decide +kernel
theorem dX3_hear_47 : decode cX3_hear 47 = .ok (.putfield 20, 3) := by decide +kernel
theorem dX3_hear_50 : decode cX3_hear 50 = .ok (.aload_n 0, 1) := by decide +kernel
theorem dX3_hear_51 : decode cX3_hear 51 = .ok (.dup, 1) := by decide +kernel
theorem dX3_hear_52 : decode cX3_hear 52 = .ok (.getfield 23, 3) := by decide +kernel
theorem dX3_hear_55 : decode cX3_hear 55 = .ok (.iconst 1, 1) := by decide +kernel
theorem dX3_hear_56 : decode cX3_hear 56 = .ok (.iadd, 1) := by decide +kernel
theorem dX3_hear_57 : decode cX3_hear 57 = .ok (.putfield 23, 3) := by decide +kernel
theorem dX3_hear_60 : decode cX3_hear 60 = .ok (.aload_n 0, 1) := by decide +kernel
theorem dX3_hear_61 : decode cX3_hear 61 = .ok (.dup, 1) := by decide +kernel
theorem dX3_hear_62 : decode cX3_hear 62 = .ok (.getfield 26, 3) := by decide +kernel
theorem dX3_hear_65 : decode cX3_hear 65 = .ok (.iconst 1, 1) := by decide +kernel
theorem dX3_hear_66 : decode cX3_hear 66 = .ok (.iadd, 1) := by decide +kernel
theorem dX3_hear_67 : decode cX3_hear 67 = .ok (.putfield 26, 3) := by decide +kernel
theorem dX3_hear_70 : decode cX3_hear 70 = .ok (.return_, 1) := by decide +kernel
theorem dX3_grow_0 : decode cX3_grow 0 = .ok (.iload_n 3, 1) := by decide +kernel
theorem dX3_grow_1 : decode cX3_grow 1 = .ok (.istore 4, 2) := by decide +kernel
theorem dX3_grow_3 : decode cX3_grow 3 = .ok (.aload_n 0, 1) := by decide +kernel
theorem dX3_grow_4 : decode cX3_grow 4 = .ok (.iload_n 1, 1) := by decide +kernel
theorem dX3_grow_5 : decode cX3_grow 5 = .ok (.iload_n 2, 1) := by decide +kernel
theorem dX3_grow_6 : decode cX3_grow 6 = .ok (.invokevirtual 50, 3) := by decide +kernel
theorem dX3_grow_9 : decode cX3_grow 9 = .ok (.istore 5, 2) := by decide +kernel
theorem dX3_grow_11 : decode cX3_grow 11 = .ok (.iload 5, 2) := by decide +kernel
theorem dX3_grow_13 : decode cX3_grow 13 = .ok (.bipush (-6), 2) := by decide +kernel
theorem dX3_grow_15 : decode cX3_grow 15 = .ok (.if_icmp .eq 27, 3) := by decide +kernel
theorem dX3_grow_18 : decode cX3_grow 18 = .ok (.bipush 9, 2) := by decide +kernel
theorem dX3_grow_20 : decode cX3_grow 20 = .ok (.aload_n 0, 1) := by decide +kernel
theorem dX3_grow_21 : decode cX3_grow 21 = .ok (.getfield 13, 3) := by decide +kernel
theorem dX3_grow_24 : decode cX3_grow 24 = .ok (.iconst 2, 1) := by decide +kernel
theorem dX3_grow_25 : decode cX3_grow 25 = .ok (.aaload, 1) := by decide +kernel
theorem dX3_grow_26 : decode cX3_grow 26 = .ok (.iload 5, 2) := by decide +kernel
theorem dX3_grow_28 : decode cX3_grow 28 = .ok (.iaload, 1) := by decide +kernel
theorem dX3_grow_29 : decode cX3_grow 29 = .ok (.iload_n 3, 1) := by decide +kernel
theorem dX3_grow_30 : decode cX3_grow 30 = .ok (.iadd, 1) := by decide +kernel
theorem dX3_grow_31 : decode cX3_grow 31 = .ok (.invokestatic 54, 3) := by decide +kernel
theorem dX3_grow_34 : decode cX3_grow 34 = .ok (.istore 4, 2) := by decide +kernel
theorem dX3_grow_36 : decode cX3_grow 36 = .ok (.aload_n 0, 1) := by decide +kernel
theorem dX3_grow_37 : decode cX3_grow 37 = .ok (.iload 5, 2) := by decide +kernel
theorem dX3_grow_39 : decode cX3_grow 39 = .ok (.invokevirtual 46, 3) := by decide +kernel
theorem dX3_grow_42 : decode cX3_grow 42 = .ok (.aload_n 0, 1) := by decide +kernel
theorem dX3_grow_43 : decode cX3_grow 43 = .ok (.getfield 16, 3) := by decide +kernel
theorem dX3_grow_46 : decode cX3_grow 46 = .ok (.bipush 61, 2) := by decide +kernel
theorem dX3_grow_48 : decode cX3_grow 48 = .ok (.if_icmp .ge 26, 3) := by decide +kernel
theorem dX3_grow_51 : decode cX3_grow 51 = .ok (.aload_n 0, 1) := by decide +kernel
theorem dX3_grow_52 : decode cX3_grow 52 = .ok (.aload_n 0, 1) := by decide +kernel
theorem dX3_grow_53 : decode cX3_grow 53 = .ok (.getfield 16, 3) := by decide +kernel
theorem dX3_grow_56 : decode cX3_grow 56 = .ok (.iload_n 1, 1) := by decide +kernel
theorem dX3_grow_57 : decode cX3_grow 57 = .ok (.iload_n 2, 1) := by decide +kernel
theorem dX3_grow_58 : decode cX3_grow 58 = .ok (.iload 4, 2) := by decide +kernel
theorem dX3_grow_60 : decode cX3_grow 60 = .ok (.iconst 1, 1) := by decide +kernel
theorem dX3_grow_61 : decode cX3_grow 61 = .ok (.invokevirtual 59, 3) := by decide +kernel
theorem dX3_grow_64 : decode cX3_grow 64 = .ok (.aload_n 0, 1) := by decide +kernel
theorem dX3_grow_65 : decode cX3_grow 65 = .ok (.dup, 1) := by decide +kernel
theorem dX3_grow_66 : decode cX3_grow 66 = .ok (.getfield 16, 3) := by decide +kernel
theorem dX3_grow_69 : decode cX3_grow 69 = .ok (.iconst 1, 1) := by decide +kernel
theorem dX3_grow_70 : decode cX3_grow 70 = .ok (.iadd, 1) := by decide +kernel
theorem dX3_grow_71 : decode cX3_grow 71 = .ok (.putfield 16, 3) := by decide +kernel
theorem dX3_grow_74 : decode cX3_grow 74 = .ok (.return_, 1) := by decide +kernel
theorem dX3_find_0 : decode cX3_find 0 = .ok (.iconst 0, 1) := by decide +kernel
theorem dX3_find_1 : decode cX3_find 1 = .ok (.istore_n 3, 1) := by decide +kernel
theorem dX3_find_2 : decode cX3_find 2 = .ok (.iload_n 3, 1) := by decide +kernel
theorem dX3_find_3 : decode cX3_find 3 = .ok (.aload_n 0, 1) := by decide +kernel
theorem dX3_find_4 : decode cX3_find 4 = .ok (.getfield 16, 3) := by decide +kernel
theorem dX3_find_7 : decode cX3_find 7 = .ok (.if_icmp .ge 35, 3) := by decide +kernel
theorem dX3_find_10 : decode cX3_find 10 = .ok (.aload_n 0, 1) := by decide +kernel
theorem dX3_find_11 : decode cX3_find 11 = .ok (.getfield 13, 3) := by decide +kernel
theorem dX3_find_14 : decode cX3_find 14 = .ok (.iconst 0, 1) := by decide +kernel
theorem dX3_find_15 : decode cX3_find 15 = .ok (.aaload, 1) := by decide +kernel
theorem dX3_find_16 : decode cX3_find 16 = .ok (.iload_n 3, 1) := by decide +kernel
theorem dX3_find_17 : decode cX3_find 17 = .ok (.iaload, 1) := by decide +kernel
theorem dX3_find_18 : decode cX3_find 18 = .ok (.iload_n 1, 1) := by decide +kernel
theorem dX3_find_19 : decode cX3_find 19 = .ok (.if_icmp .ne 17, 3) := by decide +kernel
theorem dX3_find_22 : decode cX3_find 22 = .ok (.aload_n 0, 1) := by decide +kernel
theorem dX3_find_23 : decode cX3_find 23 = .ok (.getfield 13, 3) := by decide +kernel
theorem dX3_find_26 : decode cX3_find 26 = .ok (.iconst 1, 1) := by decide +kernel
theorem dX3_find_27 : decode cX3_find 27 = .ok (.aaload, 1) := by decide +kernel
theorem dX3_find_28 : decode cX3_find 28 = .ok (.iload_n 3, 1) := by decide +kernel
theorem dX3_find_29 : decode cX3_find 29 = .ok (.iaload, 1) := by decide +kernel
theorem dX3_find_30 : decode cX3_find 30 = .ok (.iload_n 2, 1) := by decide +kernel
theorem dX3_find_31 : decode cX3_find 31 = .ok (.if_icmp .ne 5, 3) := by decide +kernel
theorem dX3_find_34 : decode cX3_find 34 = .ok (.iload_n 3, 1) := by decide +kernel
theorem dX3_find_35 : decode cX3_find 35 = .ok (.ireturn, 1) := by decide +kernel
theorem dX3_find_36 : decode cX3_find 36 = .ok (.iinc 3 1, 3) := by decide +kernel
theorem dX3_find_39 : decode cX3_find 39 = .ok (.goto (-37), 3) := by decide +kernel
theorem dX3_find_42 : decode cX3_find 42 = .ok (.bipush (-6), 2) := by decide +kernel
theorem dX3_find_44 : decode cX3_find 44 = .ok (.ireturn, 1) := by decide +kernel
theorem dX3_weakest_0 : decode cX3_weakest 0 = .ok (.iconst 0, 1) := by decide +kernel
theorem dX3_weakest_1 : decode cX3_weakest 1 = .ok (.istore_n 1, 1) := by decide +kernel
theorem dX3_weakest_2 : decode cX3_weakest 2 = .ok (.iconst 1, 1) := by decide +kernel
theorem dX3_weakest_3 : decode cX3_weakest 3 = .ok (.istore_n 2, 1) := by decide +kernel
theorem dX3_weakest_4 : decode cX3_weakest 4 = .ok (.iload_n 2, 1) := by decide +kernel
theorem dX3_weakest_5 : decode cX3_weakest 5 = .ok (.aload_n 0, 1) := by decide +kernel
theorem dX3_weakest_6 : decode cX3_weakest 6 = .ok (.getfield 16, 3) := by decide +kernel
theorem dX3_weakest_9 : decode cX3_weakest 9 = .ok (.if_icmp .ge 30, 3) := by decide +kernel
theorem dX3_weakest_12 : decode cX3_weakest 12 = .ok (.aload_n 0, 1) := by decide +kernel
theorem dX3_weakest_13 : decode cX3_weakest 13 = .ok (.getfield 13, 3) := by decide +kernel
theorem dX3_weakest_16 : decode cX3_weakest 16 = .ok (.iconst 2, 1) := by decide +kernel
theorem dX3_weakest_17 : decode cX3_weakest 17 = .ok (.aaload, 1) := by decide +kernel
theorem dX3_weakest_18 : decode cX3_weakest 18 = .ok (.iload_n 2, 1) := by decide +kernel
theorem dX3_weakest_19 : decode cX3_weakest 19 = .ok (.iaload, 1) := by decide +kernel
theorem dX3_weakest_20 : decode cX3_weakest 20 = .ok (.aload_n 0, 1) := by decide +kernel
theorem dX3_weakest_21 : decode cX3_weakest 21 = .ok (.getfield 13, 3) := by decide +kernel
theorem dX3_weakest_24 : decode cX3_weakest 24 = .ok (.iconst 2, 1) := by decide +kernel
theorem dX3_weakest_25 : decode cX3_weakest 25 = .ok (.aaload, 1) := by decide +kernel
theorem dX3_weakest_26 : decode cX3_weakest 26 = .ok (.iload_n 1, 1) := by decide +kernel
theorem dX3_weakest_27 : decode cX3_weakest 27 = .ok (.iaload, 1) := by decide +kernel
theorem dX3_weakest_28 : decode cX3_weakest 28 = .ok (.if_icmp .ge 5, 3) := by decide +kernel
theorem dX3_weakest_31 : decode cX3_weakest 31 = .ok (.iload_n 2, 1) := by decide +kernel
theorem dX3_weakest_32 : decode cX3_weakest 32 = .ok (.istore_n 1, 1) := by decide +kernel
theorem dX3_weakest_33 : decode cX3_weakest 33 = .ok (.iinc 2 1, 3) := by decide +kernel
theorem dX3_weakest_36 : decode cX3_weakest 36 = .ok (.goto (-32), 3) := by decide +kernel
theorem dX3_weakest_39 : decode cX3_weakest 39 = .ok (.iload_n 1, 1) := by decide +kernel
theorem dX3_weakest_40 : decode cX3_weakest 40 = .ok (.ireturn, 1) := by decide +kernel
theorem dX3_remove_0 : decode cX3_remove 0 = .ok (.iload_n 1, 1) := by decide +kernel
theorem dX3_remove_1 : decode cX3_remove 1 = .ok (.ifCond .lt 11, 3) := by decide +kernel
theorem dX3_remove_4 : decode cX3_remove 4 = .ok (.iload_n 1, 1) := by decide +kernel
theorem dX3_remove_5 : decode cX3_remove 5 = .ok (.aload_n 0, 1) := by decide +kernel
theorem dX3_remove_6 : decode cX3_remove 6 = .ok (.getfield 16, 3) := by decide +kernel
theorem dX3_remove_9 : decode cX3_remove 9 = .ok (.if_icmp .lt 4, 3) := by decide +kernel
theorem dX3_remove_12 : decode cX3_remove 12 = .ok (.return_, 1) := by decide +kernel
theorem dX3_remove_13 : decode cX3_remove 13 = .ok (.iconst 0, 1) := by decide +kernel
theorem dX3_remove_14 : decode cX3_remove 14 = .ok (.istore_n 2, 1) := by decide +kernel
theorem dX3_remove_15 : decode cX3_remove 15 = .ok (.iload_n 2, 1) := by decide +kernel
theorem dX3_remove_16 : decode cX3_remove 16 = .ok (.iconst 4, 1) := by decide +kernel
theorem dX3_remove_17 : decode cX3_remove 17 = .ok (.if_icmp .ge 36, 3) := by decide +kernel
theorem dX3_remove_20 : decode cX3_remove 20 = .ok (.aload_n 0, 1) := by decide +kernel
theorem dX3_remove_21 : decode cX3_remove 21 = .ok (.getfield 13, 3) := by decide +kernel
theorem dX3_remove_24 : decode cX3_remove 24 = .ok (.iload_n 2, 1) := by decide +kernel
theorem dX3_remove_25 : decode cX3_remove 25 = .ok (.aaload, 1) := by decide +kernel
theorem dX3_remove_26 : decode cX3_remove 26 = .ok (.iload_n 1, 1) := by decide +kernel
theorem dX3_remove_27 : decode cX3_remove 27 = .ok (.iconst 1, 1) := by decide +kernel
theorem dX3_remove_28 : decode cX3_remove 28 = .ok (.iadd, 1) := by decide +kernel
theorem dX3_remove_29 : decode cX3_remove 29 = .ok (.aload_n 0, 1) := by decide +kernel
theorem dX3_remove_30 : decode cX3_remove 30 = .ok (.getfield 13, 3) := by decide +kernel
theorem dX3_remove_33 : decode cX3_remove 33 = .ok (.iload_n 2, 1) := by decide +kernel
theorem dX3_remove_34 : decode cX3_remove 34 = .ok (.aaload, 1) := by decide +kernel
theorem dX3_remove_35 : decode cX3_remove 35 = .ok (.iload_n 1, 1) := by decide +kernel
theorem dX3_remove_36 : decode cX3_remove 36 = .ok (.aload_n 0, 1) := by decide +kernel
theorem dX3_remove_37 : decode cX3_remove 37 = .ok (.getfield 16, 3) := by decide +kernel
theorem dX3_remove_40 : decode cX3_remove 40 = .ok (.iload_n 1, 1) := by decide +kernel
theorem dX3_remove_41 : decode cX3_remove 41 = .ok (.isub, 1) := by decide +kernel
theorem dX3_remove_42 : decode cX3_remove 42 = .ok (.iconst 1, 1) := by decide +kernel
theorem dX3_remove_43 : decode cX3_remove 43 = .ok (.isub, 1) := by decide +kernel
theorem dX3_remove_44 : decode cX3_remove 44 = .ok (.invokestatic 32, 3) := by decide +kernel
theorem dX3_remove_47 : decode cX3_remove 47 = .ok (.iinc 2 1, 3) := by decide +kernel
theorem dX3_remove_50 : decode cX3_remove 50 = .ok (.goto (-35), 3) := by decide +kernel
theorem dX3_remove_53 : decode cX3_remove 53 = .ok (.aload_n 0, 1) := by decide +kernel
theorem dX3_remove_54 : decode cX3_remove 54 = .ok (.dup, 1) := by decide +kernel
theorem dX3_remove_55 : decode cX3_remove 55 = .ok (.getfield 16, 3) := by decide +kernel
theorem dX3_remove_58 : decode cX3_remove 58 = .ok (.iconst 1, 1) := by decide +kernel
theorem dX3_remove_59 : decode cX3_remove 59 = .ok (.isub, 1) := by decide +kernel
theorem dX3_remove_60 : decode cX3_remove 60 = .ok (.putfield 16, 3) := by decide +kernel
theorem dX3_remove_63 : decode cX3_remove 63 = .ok (.return_, 1) := by decide +kernel
theorem dX3_write_0 : decode cX3_write 0 = .ok (.aload_n 0, 1) := by decide +kernel
theorem dX3_write_1 : decode cX3_write 1 = .ok (.getfield 13, 3) := by decide +kernel
theorem dX3_write_4 : decode cX3_write 4 = .ok (.iconst 0, 1) := by decide +kernel
theorem dX3_write_5 : decode cX3_write 5 = .ok (.aaload, 1) := by decide +kernel
theorem dX3_write_6 : decode cX3_write 6 = .ok (.iload_n 1, 1) := by decide +kernel
theorem dX3_write_7 : decode cX3_write 7 = .ok (.iload_n 2, 1) := by decide +kernel
theorem dX3_write_8 : decode cX3_write 8 = .ok (.iastore, 1) := by decide +kernel
theorem dX3_write_9 : decode cX3_write 9 = .ok (.aload_n 0, 1) := by decide +kernel
theorem dX3_write_10 : decode cX3_write 10 = .ok (.getfield 13, 3) := by decide +kernel
theorem dX3_write_13 : decode cX3_write 13 = .ok (.iconst 1, 1) := by decide +kernel
theorem dX3_write_14 : decode cX3_write 14 = .ok (.aaload, 1) := by decide +kernel
theorem dX3_write_15 : decode cX3_write 15 = .ok (.iload_n 1, 1) := by decide +kernel
theorem dX3_write_16 : decode cX3_write 16 = .ok (.iload_n 3, 1) := by decide +kernel
theorem dX3_write_17 : decode cX3_write 17 = .ok (.iastore, 1) := by decide +kernel
theorem dX3_write_18 : decode cX3_write 18 = .ok (.aload_n 0, 1) := by decide +kernel
theorem dX3_write_19 : decode cX3_write 19 = .ok (.getfield 13, 3) := by decide +kernel
theorem dX3_write_22 : decode cX3_write 22 = .ok (.iconst 2, 1) := by decide +kernel
theorem dX3_write_23 : decode cX3_write 23 = .ok (.aaload, 1) := by decide +kernel
theorem dX3_write_24 : decode cX3_write 24 = .ok (.iload_n 1, 1) := by decide +kernel
theorem dX3_write_25 : decode cX3_write 25 = .ok (.iload 4, 2) := by decide +kernel
theorem dX3_write_27 : decode cX3_write 27 = .ok (.iastore, 1) := by decide +kernel
theorem dX3_write_28 : decode cX3_write 28 = .ok (.aload_n 0, 1) := by decide +kernel
theorem dX3_write_29 : decode cX3_write 29 = .ok (.getfield 13, 3) := by decide +kernel
theorem dX3_write_32 : decode cX3_write 32 = .ok (.iconst 3, 1) := by decide +kernel
theorem dX3_write_33 : decode cX3_write 33 = .ok (.aaload, 1) := by decide +kernel
theorem dX3_write_34 : decode cX3_write 34 = .ok (.iload_n 1, 1) := by decide +kernel
theorem dX3_write_35 : decode cX3_write 35 = .ok (.iload 5, 2) := by decide +kernel
theorem dX3_write_37 : decode cX3_write 37 = .ok (.iastore, 1) := by decide +kernel
theorem dX3_write_38 : decode cX3_write 38 = .ok (.return_, 1) := by decide +kernel
theorem dX3_sleep_0 : decode cX3_sleep 0 = .ok (.iconst 0, 1) := by decide +kernel
theorem dX3_sleep_1 : decode cX3_sleep 1 = .ok (.istore_n 2, 1) := by decide +kernel
theorem dX3_sleep_2 : decode cX3_sleep 2 = .ok (.iconst 0, 1) := by decide +kernel
theorem dX3_sleep_3 : decode cX3_sleep 3 = .ok (.istore_n 3, 1) := by decide +kernel
theorem dX3_sleep_4 : decode cX3_sleep 4 = .ok (.iload_n 3, 1) := by decide +kernel
theorem dX3_sleep_5 : decode cX3_sleep 5 = .ok (.aload_n 0, 1) := by decide +kernel
theorem dX3_sleep_6 : decode cX3_sleep 6 = .ok (.getfield 16, 3) := by decide +kernel
theorem dX3_sleep_9 : decode cX3_sleep 9 = .ok (.if_icmp .ge 70, 3) := by decide +kernel
theorem dX3_sleep_12 : decode cX3_sleep 12 = .ok (.aload_n 0, 1) := by decide +kernel
theorem dX3_sleep_13 : decode cX3_sleep 13 = .ok (.getfield 13, 3) := by decide +kernel
theorem dX3_sleep_16 : decode cX3_sleep 16 = .ok (.iconst 2, 1) := by decide +kernel
theorem dX3_sleep_17 : decode cX3_sleep 17 = .ok (.aaload, 1) := by decide +kernel
theorem dX3_sleep_18 : decode cX3_sleep 18 = .ok (.iload_n 3, 1) := by decide +kernel
theorem dX3_sleep_19 : decode cX3_sleep 19 = .ok (.iaload, 1) := by decide +kernel
theorem dX3_sleep_20 : decode cX3_sleep 20 = .ok (.aload_n 0, 1) := by decide +kernel
theorem dX3_sleep_21 : decode cX3_sleep 21 = .ok (.getfield 13, 3) := by decide +kernel
theorem dX3_sleep_24 : decode cX3_sleep 24 = .ok (.iconst 3, 1) := by decide +kernel
theorem dX3_sleep_25 : decode cX3_sleep 25 = .ok (.aaload, 1) := by decide +kernel
theorem dX3_sleep_26 : decode cX3_sleep 26 = .ok (.iload_n 3, 1) := by decide +kernel
theorem dX3_sleep_27 : decode cX3_sleep 27 = .ok (.iaload, 1) := by decide +kernel
theorem dX3_sleep_28 : decode cX3_sleep 28 = .ok (.iconst 1, 1) := by decide +kernel
theorem dX3_sleep_29 : decode cX3_sleep 29 = .ok (.if_icmp .ne 7, 3) := by decide +kernel
theorem dX3_sleep_32 : decode cX3_sleep 32 = .ok (.iconst 0, 1) := by decide +kernel
theorem dX3_sleep_33 : decode cX3_sleep 33 = .ok (.goto 4, 3) := by decide +kernel
theorem dX3_sleep_36 : decode cX3_sleep 36 = .ok (.iload_n 1, 1) := by decide +kernel
theorem dX3_sleep_37 : decode cX3_sleep 37 = .ok (.isub, 1) := by decide +kernel
theorem dX3_sleep_38 : decode cX3_sleep 38 = .ok (.istore 4, 2) := by decide +kernel
theorem dX3_sleep_40 : decode cX3_sleep 40 = .ok (.iload 4, 2) := by decide +kernel
theorem dX3_sleep_42 : decode cX3_sleep 42 = .ok (.iconst 1, 1) := by decide +kernel
theorem dX3_sleep_43 : decode cX3_sleep 43 = .ok (.if_icmp .lt 30, 3) := by decide +kernel
theorem dX3_sleep_46 : decode cX3_sleep 46 = .ok (.aload_n 0, 1) := by decide +kernel
theorem dX3_sleep_47 : decode cX3_sleep 47 = .ok (.iload_n 2, 1) := by decide +kernel
theorem dX3_sleep_48 : decode cX3_sleep 48 = .ok (.aload_n 0, 1) := by decide +kernel
theorem dX3_sleep_49 : decode cX3_sleep 49 = .ok (.getfield 13, 3) := by decide +kernel
theorem dX3_sleep_52 : decode cX3_sleep 52 = .ok (.iconst 0, 1) := by decide +kernel
theorem dX3_sleep_53 : decode cX3_sleep 53 = .ok (.aaload, 1) := by decide +kernel
theorem dX3_sleep_54 : decode cX3_sleep 54 = .ok (.iload_n 3, 1) := by decide +kernel
theorem dX3_sleep_55 : decode cX3_sleep 55 = .ok (.iaload, 1) := by decide +kernel
theorem dX3_sleep_56 : decode cX3_sleep 56 = .ok (.aload_n 0, 1) := by decide +kernel
theorem dX3_sleep_57 : decode cX3_sleep 57 = .ok (.getfield 13, 3) := by decide +kernel
theorem dX3_sleep_60 : decode cX3_sleep 60 = .ok (.iconst 1, 1) := by decide +kernel
theorem dX3_sleep_61 : decode cX3_sleep 61 = .ok (.aaload, 1) := by decide +kernel
theorem dX3_sleep_62 : decode cX3_sleep 62 = .ok (.iload_n 3, 1) := by decide +kernel
theorem dX3_sleep_63 : decode cX3_sleep 63 = .ok (.iaload, 1) := by decide +kernel
theorem dX3_sleep_64 : decode cX3_sleep 64 = .ok (.iload 4, 2) := by decide +kernel
theorem dX3_sleep_66 : decode cX3_sleep 66 = .ok (.iconst 0, 1) := by decide +kernel
theorem dX3_sleep_67 : decode cX3_sleep 67 = .ok (.invokevirtual 59, 3) := by decide +kernel
theorem dX3_sleep_70 : decode cX3_sleep 70 = .ok (.iinc 2 1, 3) := by decide +kernel
theorem dX3_sleep_73 : decode cX3_sleep 73 = .ok (.iinc 3 1, 3) := by decide +kernel
theorem dX3_sleep_76 : decode cX3_sleep 76 = .ok (.goto (-72), 3) := by decide +kernel
theorem dX3_sleep_79 : decode cX3_sleep 79 = .ok (.aload_n 0, 1) := by decide +kernel
theorem dX3_sleep_80 : decode cX3_sleep 80 = .ok (.getfield 16, 3) := by decide +kernel
theorem dX3_sleep_83 : decode cX3_sleep 83 = .ok (.iload_n 2, 1) := by decide +kernel
theorem dX3_sleep_84 : decode cX3_sleep 84 = .ok (.isub, 1) := by decide +kernel
theorem dX3_sleep_85 : decode cX3_sleep 85 = .ok (.istore_n 3, 1) := by decide +kernel
theorem dX3_sleep_86 : decode cX3_sleep 86 = .ok (.aload_n 0, 1) := by decide +kernel
theorem dX3_sleep_87 : decode cX3_sleep 87 = .ok (.iload_n 2, 1) := by decide +kernel
theorem dX3_sleep_88 : decode cX3_sleep 88 = .ok (.putfield 16, 3) := by decide +kernel
theorem dX3_sleep_91 : decode cX3_sleep 91 = .ok (.aload_n 0, 1) := by decide +kernel
theorem dX3_sleep_92 : decode cX3_sleep 92 = .ok (.dup, 1) := by decide +kernel
theorem dX3_sleep_93 : decode cX3_sleep 93 = .ok (.getfield 29, 3) := by decide +kernel
theorem dX3_sleep_96 : decode cX3_sleep 96 = .ok (.iload_n 3, 1) := by decide +kernel
theorem dX3_sleep_97 : decode cX3_sleep 97 = .ok (.iadd, 1) := by decide +kernel
theorem dX3_sleep_98 : decode cX3_sleep 98 = .ok (.putfield 29, 3) := by decide +kernel
theorem dX3_sleep_101 : decode cX3_sleep 101 = .ok (.aload_n 0, 1) := by decide +kernel
theorem dX3_sleep_102 : decode cX3_sleep 102 = .ok (.bipush (-6), 2) := by decide +kernel
theorem dX3_sleep_104 : decode cX3_sleep 104 = .ok (.putfield 20, 3) := by decide +kernel
theorem dX3_sleep_107 : decode cX3_sleep 107 = .ok (.aload_n 0, 1) := by decide +kernel
theorem dX3_sleep_108 : decode cX3_sleep 108 = .ok (.iconst 0, 1) := by decide +kernel
theorem dX3_sleep_109 : decode cX3_sleep 109 = .ok (.putfield 23, 3) := by decide +kernel
theorem dX3_sleep_112 : decode cX3_sleep 112 = .ok (.iload_n 3, 1) := by decide +kernel
theorem dX3_sleep_113 : decode cX3_sleep 113 = .ok (.ireturn, 1) := by decide +kernel
theorem dX3_nextBehind_0 : decode cX3_nextBehind 0 = .ok (.bipush (-6), 2) := by decide +kernel
theorem dX3_nextBehind_2 : decode cX3_nextBehind 2 = .ok (.istore_n 2, 1) := by decide +kernel
theorem dX3_nextBehind_3 : decode cX3_nextBehind 3 = .ok (.iconst 0, 1) := by decide +kernel
theorem dX3_nextBehind_4 : decode cX3_nextBehind 4 = .ok (.istore_n 3, 1) := by decide +kernel
theorem dX3_nextBehind_5 : decode cX3_nextBehind 5 = .ok (.aload_n 0, 1) := by decide +kernel
theorem dX3_nextBehind_6 : decode cX3_nextBehind 6 = .ok (.getfield 16, 3) := by decide +kernel
theorem dX3_nextBehind_9 : decode cX3_nextBehind 9 = .ok (.iconst 1, 1) := by decide +kernel
theorem dX3_nextBehind_10 : decode cX3_nextBehind 10 = .ok (.isub, 1) := by decide +kernel
theorem dX3_nextBehind_11 : decode cX3_nextBehind 11 = .ok (.istore 4, 2) := by decide +kernel
theorem dX3_nextBehind_13 : decode cX3_nextBehind 13 = .ok (.iload 4, 2) := by decide +kernel
theorem dX3_nextBehind_15 : decode cX3_nextBehind 15 = .ok (.ifCond .lt 55, 3) := by decide +kernel
theorem dX3_nextBehind_18 : decode cX3_nextBehind 18 = .ok (.aload_n 0, 1) := by decide +kernel
theorem dX3_nextBehind_19 : decode cX3_nextBehind 19 = .ok (.getfield 13, 3) := by decide +kernel
theorem dX3_nextBehind_22 : decode cX3_nextBehind 22 = .ok (.iconst 0, 1) := by decide +kernel
theorem dX3_nextBehind_23 : decode cX3_nextBehind 23 = .ok (.aaload, 1) := by decide +kernel
theorem dX3_nextBehind_24 : decode cX3_nextBehind 24 = .ok (.iload 4, 2) := by decide +kernel
theorem dX3_nextBehind_26 : decode cX3_nextBehind 26 = .ok (.iaload, 1) := by decide +kernel
theorem dX3_nextBehind_27 : decode cX3_nextBehind 27 = .ok (.iload_n 1, 1) := by decide +kernel
theorem dX3_nextBehind_28 : decode cX3_nextBehind 28 = .ok (.if_icmp .ne 36, 3) := by decide +kernel
theorem dX3_nextBehind_31 : decode cX3_nextBehind 31 = .ok (.aload_n 0, 1) := by decide +kernel
theorem dX3_nextBehind_32 : decode cX3_nextBehind 32 = .ok (.getfield 13, 3) := by decide +kernel
theorem dX3_nextBehind_35 : decode cX3_nextBehind 35 = .ok (.iconst 2, 1) := by decide +kernel
theorem dX3_nextBehind_36 : decode cX3_nextBehind 36 = .ok (.aaload, 1) := by decide +kernel
theorem dX3_nextBehind_37 : decode cX3_nextBehind 37 = .ok (.iload 4, 2) := by decide +kernel
theorem dX3_nextBehind_39 : decode cX3_nextBehind 39 = .ok (.iaload, 1) := by decide +kernel
theorem dX3_nextBehind_40 : decode cX3_nextBehind 40 = .ok (.iload_n 3, 1) := by decide +kernel
theorem dX3_nextBehind_41 : decode cX3_nextBehind 41 = .ok (.if_icmp .le 23, 3) := by decide +kernel
theorem dX3_nextBehind_44 : decode cX3_nextBehind 44 = .ok (.aload_n 0, 1) := by decide +kernel
theorem dX3_nextBehind_45 : decode cX3_nextBehind 45 = .ok (.getfield 13, 3) := by decide +kernel
theorem dX3_nextBehind_48 : decode cX3_nextBehind 48 = .ok (.iconst 1, 1) := by decide +kernel
theorem dX3_nextBehind_49 : decode cX3_nextBehind 49 = .ok (.aaload, 1) := by decide +kernel
theorem dX3_nextBehind_50 : decode cX3_nextBehind 50 = .ok (.iload 4, 2) := by decide +kernel
theorem dX3_nextBehind_52 : decode cX3_nextBehind 52 = .ok (.iaload, 1) := by decide +kernel
theorem dX3_nextBehind_53 : decode cX3_nextBehind 53 = .ok (.istore_n 2, 1) := by decide +kernel
theorem dX3_nextBehind_54 : decode cX3_nextBehind 54 = .ok (.aload_n 0, 1) := by decide +kernel
theorem dX3_nextBehind_55 : decode cX3_nextBehind 55 = .ok (.getfield 13, 3) := by decide +kernel
theorem dX3_nextBehind_58 : decode cX3_nextBehind 58 = .ok (.iconst 2, 1) := by decide +kernel
theorem dX3_nextBehind_59 : decode cX3_nextBehind 59 = .ok (.aaload, 1) := by decide +kernel
theorem dX3_nextBehind_60 : decode cX3_nextBehind 60 = .ok (.iload 4, 2) := by decide +kernel
theorem dX3_nextBehind_62 : decode cX3_nextBehind 62 = .ok (.iaload, 1) := by decide +kernel
theorem dX3_nextBehind_63 : decode cX3_nextBehind 63 = .ok (.istore_n 3, 1) := by decide +kernel
theorem dX3_nextBehind_64 : decode cX3_nextBehind 64 = .ok (.iinc 4 (-1), 3) := by decide +kernel
theorem dX3_nextBehind_67 : decode cX3_nextBehind 67 = .ok (.goto (-54), 3) := by decide +kernel
theorem dX3_nextBehind_70 : decode cX3_nextBehind 70 = .ok (.iload_n 2, 1) := by decide +kernel
theorem dX3_nextBehind_71 : decode cX3_nextBehind 71 = .ok (.ireturn, 1) := by decide +kernel
theorem dX3_strengthInAll_0 : decode cX3_strengthInAll 0 = .ok (.iconst 0, 1) := by decide +kernel
theorem dX3_strengthInAll_1 : decode cX3_strengthInAll 1 = .ok (.istore_n 1, 1) := by decide +kernel
theorem dX3_strengthInAll_2 : decode cX3_strengthInAll 2 = .ok (.iconst 0, 1) := by decide +kernel
theorem dX3_strengthInAll_3 : decode cX3_strengthInAll 3 = .ok (.istore_n 2, 1) := by decide +kernel
theorem dX3_strengthInAll_4 : decode cX3_strengthInAll 4 = .ok (.iload_n 2, 1) := by decide +kernel
theorem dX3_strengthInAll_5 : decode cX3_strengthInAll 5 = .ok (.aload_n 0, 1) := by decide +kernel
theorem dX3_strengthInAll_6 : decode cX3_strengthInAll 6 = .ok (.getfield 16, 3) := by decide +kernel
theorem dX3_strengthInAll_9 : decode cX3_strengthInAll 9 = .ok (.if_icmp .ge 20, 3) := by decide +kernel
theorem dX3_strengthInAll_12 : decode cX3_strengthInAll 12 = .ok (.iload_n 1, 1) := by decide +kernel
theorem dX3_strengthInAll_13 : decode cX3_strengthInAll 13 = .ok (.aload_n 0, 1) := by decide +kernel
theorem dX3_strengthInAll_14 : decode cX3_strengthInAll 14 = .ok (.getfield 13, 3) := by decide +kernel
theorem dX3_strengthInAll_17 : decode cX3_strengthInAll 17 = .ok (.iconst 2, 1) := by decide +kernel
theorem dX3_strengthInAll_18 : decode cX3_strengthInAll 18 = .ok (.aaload, 1) := by decide +kernel
theorem dX3_strengthInAll_19 : decode cX3_strengthInAll 19 = .ok (.iload_n 2, 1) := by decide +kernel
theorem dX3_strengthInAll_20 : decode cX3_strengthInAll 20 = .ok (.iaload, 1) := by decide +kernel
theorem dX3_strengthInAll_21 : decode cX3_strengthInAll 21 = .ok (.iadd, 1) := by decide +kernel
theorem dX3_strengthInAll_22 : decode cX3_strengthInAll 22 = .ok (.istore_n 1, 1) := by decide +kernel
theorem dX3_strengthInAll_23 : decode cX3_strengthInAll 23 = .ok (.iinc 2 1, 3) := by decide +kernel
theorem dX3_strengthInAll_26 : decode cX3_strengthInAll 26 = .ok (.goto (-22), 3) := by decide +kernel
theorem dX3_strengthInAll_29 : decode cX3_strengthInAll 29 = .ok (.iload_n 1, 1) := by decide +kernel
theorem dX3_strengthInAll_30 : decode cX3_strengthInAll 30 = .ok (.ireturn, 1) := by decide +kernel
theorem dX3_ofLink_0 : decode cX3_ofLink 0 = .ok (.iload_n 1, 1) := by decide +kernel
theorem dX3_ofLink_1 : decode cX3_ofLink 1 = .ok (.ifCond .lt 20, 3) := by decide +kernel
theorem dX3_ofLink_4 : decode cX3_ofLink 4 = .ok (.iload_n 1, 1) := by decide +kernel
theorem dX3_ofLink_5 : decode cX3_ofLink 5 = .ok (.aload_n 0, 1) := by decide +kernel
theorem dX3_ofLink_6 : decode cX3_ofLink 6 = .ok (.getfield 16, 3) := by decide +kernel
theorem dX3_ofLink_9 : decode cX3_ofLink 9 = .ok (.if_icmp .ge 12, 3) := by decide +kernel
theorem dX3_ofLink_12 : decode cX3_ofLink 12 = .ok (.iload_n 2, 1) := by decide +kernel
theorem dX3_ofLink_13 : decode cX3_ofLink 13 = .ok (.ifCond .lt 8, 3) := by decide +kernel
theorem dX3_ofLink_16 : decode cX3_ofLink 16 = .ok (.iload_n 2, 1) := by decide +kernel
theorem dX3_ofLink_17 : decode cX3_ofLink 17 = .ok (.iconst 4, 1) := by decide +kernel
theorem dX3_ofLink_18 : decode cX3_ofLink 18 = .ok (.if_icmp .lt 6, 3) := by decide +kernel
theorem dX3_ofLink_21 : decode cX3_ofLink 21 = .ok (.bipush (-6), 2) := by decide +kernel
theorem dX3_ofLink_23 : decode cX3_ofLink 23 = .ok (.ireturn, 1) := by decide +kernel
theorem dX3_ofLink_24 : decode cX3_ofLink 24 = .ok (.aload_n 0, 1) := by decide +kernel
theorem dX3_ofLink_25 : decode cX3_ofLink 25 = .ok (.getfield 13, 3) := by decide +kernel
theorem dX3_ofLink_28 : decode cX3_ofLink 28 = .ok (.iload_n 2, 1) := by decide +kernel
theorem dX3_ofLink_29 : decode cX3_ofLink 29 = .ok (.aaload, 1) := by decide +kernel
theorem dX3_ofLink_30 : decode cX3_ofLink 30 = .ok (.aload_n 0, 1) := by decide +kernel
theorem dX3_ofLink_31 : decode cX3_ofLink 31 = .ok (.getfield 16, 3) := by decide +kernel
theorem dX3_ofLink_34 : decode cX3_ofLink 34 = .ok (.iconst 1, 1) := by decide +kernel
theorem dX3_ofLink_35 : decode cX3_ofLink 35 = .ok (.isub, 1) := by decide +kernel
theorem dX3_ofLink_36 : decode cX3_ofLink 36 = .ok (.iload_n 1, 1) := by decide +kernel
theorem dX3_ofLink_37 : decode cX3_ofLink 37 = .ok (.isub, 1) := by decide +kernel
theorem dX3_ofLink_38 : decode cX3_ofLink 38 = .ok (.iaload, 1) := by decide +kernel
theorem dX3_ofLink_39 : decode cX3_ofLink 39 = .ok (.ireturn, 1) := by decide +kernel
theorem dX4_init_0 : decode cX4_init 0 = .ok (.aload_n 0, 1) := by decide +kernel
theorem dX4_init_1 : decode cX4_init 1 = .ok (.invokespecial 3, 3) := by decide +kernel
theorem dX4_init_4 : decode cX4_init 4 = .ok (.aload_n 0, 1) := by decide +kernel
theorem dX4_init_5 : decode cX4_init 5 = .ok (.new 9, 3) := by decide +kernel
theorem dX4_init_8 : decode cX4_init 8 = .ok (.dup, 1) := by decide +kernel
theorem dX4_init_9 : decode cX4_init 9 = .ok (.invokespecial 11, 3) := by decide +kernel
theorem dX4_init_12 : decode cX4_init 12 = .ok (.putfield 12, 3) := by decide +kernel
theorem dX4_init_15 : decode cX4_init 15 = .ok (.aload_n 0, 1) := by decide +kernel
theorem dX4_init_16 : decode cX4_init 16 = .ok (.iconst 0, 1) := by decide +kernel
theorem dX4_init_17 : decode cX4_init 17 = .ok (.putfield 18, 3) := by decide +kernel
theorem dX4_init_20 : decode cX4_init 20 = .ok (.aload_n 0, 1) := by decide +kernel
theorem dX4_init_21 : decode cX4_init 21 = .ok (.iconst 1, 1) := by decide +kernel
theorem dX4_init_22 : decode cX4_init 22 = .ok (.putfield 22, 3) := by decide +kernel
theorem dX4_init_25 : decode cX4_init 25 = .ok (.aload_n 0, 1) := by decide +kernel
theorem dX4_init_26 : decode cX4_init 26 = .ok (.iconst 0, 1) := by decide +kernel
theorem dX4_init_27 : decode cX4_init 27 = .ok (.putfield 26, 3) := by decide +kernel
theorem dX4_init_30 : decode cX4_init 30 = .ok (.aload_n 0, 1) := by decide +kernel
theorem dX4_init_31 : decode cX4_init 31 = .ok (.iconst 0, 1) := by decide +kernel
theorem dX4_init_32 : decode cX4_init 32 = .ok (.putfield 30, 3) := by decide +kernel
theorem dX4_init_35 : decode cX4_init 35 = .ok (.aload_n 0, 1) := by decide +kernel
theorem dX4_init_36 : decode cX4_init 36 = .ok (.iconst 0, 1) := by decide +kernel
theorem dX4_init_37 : decode cX4_init 37 = .ok (.putfield 33, 3) := by decide +kernel
theorem dX4_init_40 : decode cX4_init 40 = .ok (.aload_n 0, 1) := by decide +kernel
theorem dX4_init_41 : decode cX4_init 41 = .ok (.iconst 0, 1) := by decide +kernel
theorem dX4_init_42 : decode cX4_init 42 = .ok (.putfield 36, 3) := by decide +kernel
theorem dX4_init_45 : decode cX4_init 45 = .ok (.aload_n 0, 1) := by decide +kernel
theorem dX4_init_46 : decode cX4_init 46 = .ok (.bipush 20, 2) := by decide +kernel
theorem dX4_init_48 : decode cX4_init 48 = .ok (.newarray .int, 2) := by decide +kernel
theorem dX4_init_50 : decode cX4_init 50 = .ok (.putfield 39, 3) := by decide +kernel
theorem dX4_init_53 : decode cX4_init 53 = .ok (.aload_n 0, 1) := by decide +kernel
theorem dX4_init_54 : decode cX4_init 54 = .ok (.iconst 0, 1) := by decide +kernel
theorem dX4_init_55 : decode cX4_init 55 = .ok (.putfield 43, 3) := by decide +kernel
theorem dX4_init_58 : decode cX4_init 58 = .ok (.return_, 1) := by decide +kernel
theorem dX4_start_0 : decode cX4_start 0 = .ok (.aload_n 0, 1) := by decide +kernel
theorem dX4_start_1 : decode cX4_start 1 = .ok (.iconst 0, 1) := by decide +kernel
theorem dX4_start_2 : decode cX4_start 2 = .ok (.putfield 18, 3) := by decide +kernel
theorem dX4_start_5 : decode cX4_start 5 = .ok (.aload_n 0, 1) := by decide +kernel
theorem dX4_start_6 : decode cX4_start 6 = .ok (.iconst 1, 1) := by decide +kernel
theorem dX4_start_7 : decode cX4_start 7 = .ok (.putfield 22, 3) := by decide +kernel
theorem dX4_start_10 : decode cX4_start 10 = .ok (.return_, 1) := by decide +kernel
theorem dX4_findFault_0 : decode cX4_findFault 0 = .ok (.aload_n 0, 1) := by decide +kernel
theorem dX4_findFault_1 : decode cX4_findFault 1 = .ok (.invokevirtual 46, 3) := by decide +kernel
theorem dX4_findFault_4 : decode cX4_findFault 4 = .ok (.iconst 0, 1) := by decide +kernel
theorem dX4_findFault_5 : decode cX4_findFault 5 = .ok (.istore_n 1, 1) := by decide +kernel
theorem dX4_findFault_6 : decode cX4_findFault 6 = .ok (.iload_n 1, 1) := by decide +kernel
theorem dX4_findFault_7 : decode cX4_findFault 7 = .ok (.bipush 80, 2) := by decide +kernel
theorem dX4_findFault_9 : decode cX4_findFault 9 = .ok (.if_icmp .ge 28, 3) := by decide +kernel
theorem dX4_findFault_12 : decode cX4_findFault 12 = .ok (.aload_n 0, 1) := by decide +kernel
theorem dX4_findFault_13 : decode cX4_findFault 13 = .ok (.getfield 22, 3) := by decide +kernel
theorem dX4_findFault_16 : decode cX4_findFault 16 = .ok (.ifCond .eq 21, 3) := by decide +kernel
theorem dX4_findFault_19 : decode cX4_findFault 19 = .ok (.aload_n 0, 1) := by decide +kernel
theorem dX4_findFault_20 : decode cX4_findFault 20 = .ok (.invokevirtual 49, 3) := by decide +kernel
theorem dX4_findFault_23 : decode cX4_findFault 23 = .ok (.ifCond .ne 8, 3) := by decide +kernel
theorem dX4_findFault_26 : decode cX4_findFault 26 = .ok (.aload_n 0, 1) := by decide +kernel
theorem dX4_findFault_27 : decode cX4_findFault 27 = .ok (.getfield 18, 3) := by decide +kernel
theorem dX4_findFault_30 : decode cX4_findFault 30 = .ok (.ireturn, 1) := by decide +kernel
theorem dX4_findFault_31 : decode cX4_findFault 31 = .ok (.iinc 1 1, 3) := by decide +kernel
theorem dX4_findFault_34 : decode cX4_findFault 34 = .ok (.goto (-28), 3) := by decide +kernel
theorem dX4_findFault_37 : decode cX4_findFault 37 = .ok (.bipush (-6), 2) := by decide +kernel
theorem dX4_findFault_39 : decode cX4_findFault 39 = .ok (.ireturn, 1) := by decide +kernel
theorem dX4_readNext_0 : decode cX4_readNext 0 = .ok (.aload_n 0, 1) := by decide +kernel
theorem dX4_readNext_1 : decode cX4_readNext 1 = .ok (.getfield 22, 3) := by decide +kernel
theorem dX4_readNext_4 : decode cX4_readNext 4 = .ok (.ifCond .eq 10, 3) := by decide +kernel
theorem dX4_readNext_7 : decode cX4_readNext 7 = .ok (.aload_n 0, 1) := by decide +kernel
theorem dX4_readNext_8 : decode cX4_readNext 8 = .ok (.invokevirtual 53, 3) := by decide +kernel
theorem dX4_readNext_11 : decode cX4_readNext 11 = .ok (.ifCond .ne 5, 3) := by decide +kernel
theorem dX4_readNext_14 : decode cX4_readNext 14 = .ok (.iconst 0, 1) := by decide +kernel
theorem dX4_readNext_15 : decode cX4_readNext 15 = .ok (.ireturn, 1) := by decide +kernel
theorem dX4_readNext_16 : decode cX4_readNext 16 = .ok (.aload_n 0, 1) := by decide +kernel
theorem dX4_readNext_17 : decode cX4_readNext 17 = .ok (.aload_n 0, 1) := by decide +kernel
theorem dX4_readNext_18 : decode cX4_readNext 18 = .ok (.bipush 59, 2) := by decide +kernel
theorem dX4_readNext_20 : decode cX4_readNext 20 = .ok (.invokevirtual 56, 3) := by decide +kernel
theorem dX4_readNext_23 : decode cX4_readNext 23 = .ok (.putfield 22, 3) := by decide +kernel
theorem dX4_readNext_26 : decode cX4_readNext 26 = .ok (.aload_n 0, 1) := by decide +kernel
theorem dX4_readNext_27 : decode cX4_readNext 27 = .ok (.getfield 22, 3) := by decide +kernel
theorem dX4_readNext_30 : decode cX4_readNext 30 = .ok (.ifCond .ne 17, 3) := by decide +kernel
theorem dX4_readNext_33 : decode cX4_readNext 33 = .ok (.aload_n 0, 1) := by decide +kernel
theorem dX4_readNext_34 : decode cX4_readNext 34 = .ok (.getfield 18, 3) := by decide +kernel
theorem dX4_readNext_37 : decode cX4_readNext 37 = .ok (.aload_n 0, 1) := by decide +kernel
theorem dX4_readNext_38 : decode cX4_readNext 38 = .ok (.getfield 12, 3) := by decide +kernel
theorem dX4_readNext_41 : decode cX4_readNext 41 = .ok (.getfield 60, 3) := by decide +kernel
theorem dX4_readNext_44 : decode cX4_readNext 44 = .ok (.if_icmp .lt 7, 3) := by decide +kernel
theorem dX4_readNext_47 : decode cX4_readNext 47 = .ok (.iconst 1, 1) := by decide +kernel
theorem dX4_readNext_48 : decode cX4_readNext 48 = .ok (.goto 4, 3) := by decide +kernel
theorem dX4_readNext_51 : decode cX4_readNext 51 = .ok (.iconst 0, 1) := by decide +kernel
theorem dX4_readNext_52 : decode cX4_readNext 52 = .ok (.ireturn, 1) := by decide +kernel
theorem dX4_readOrder_0 : decode cX4_readOrder 0 = .ok (.aload_n 0, 1) := by decide +kernel
theorem dX4_readOrder_1 : decode cX4_readOrder 1 = .ok (.aload_n 0, 1) := by decide +kernel
theorem dX4_readOrder_2 : decode cX4_readOrder 2 = .ok (.getfield 12, 3) := by decide +kernel
theorem dX4_readOrder_5 : decode cX4_readOrder 5 = .ok (.aload_n 0, 1) := by decide +kernel
theorem dX4_readOrder_6 : decode cX4_readOrder 6 = .ok (.getfield 18, 3) := by decide +kernel
theorem dX4_readOrder_9 : decode cX4_readOrder 9 = .ok (.invokevirtual 63, 3) := by decide +kernel
theorem dX4_readOrder_12 : decode cX4_readOrder 12 = .ok (.putfield 26, 3) := by decide +kernel
theorem dX4_readOrder_15 : decode cX4_readOrder 15 = .ok (.aload_n 0, 1) := by decide +kernel
theorem dX4_readOrder_16 : decode cX4_readOrder 16 = .ok (.getfield 26, 3) := by decide +kernel
theorem dX4_readOrder_19 : decode cX4_readOrder 19 = .ok (.tableswitch 181 66 83 #[100, 181, 181, 181, 181, 181, 127, 181, 181, 181, 112, 181, 100, 181, 142, 181, 181, 85], 85) := by decide +kernel
theorem dX4_readOrder_104 : decode cX4_readOrder 104 = .ok (.aload_n 0, 1) := by decide +kernel
theorem dX4_readOrder_105 : decode cX4_readOrder 105 = .ok (.dup, 1) := by decide +kernel
theorem dX4_readOrder_106 : decode cX4_readOrder 106 = .ok (.getfield 18, 3) := by decide +kernel
theorem dX4_readOrder_109 : decode cX4_readOrder 109 = .ok (.iconst 1, 1) := by decide +kernel
theorem dX4_readOrder_110 : decode cX4_readOrder 110 = .ok (.iadd, 1) := by decide +kernel
theorem dX4_readOrder_111 : decode cX4_readOrder 111 = .ok (.putfield 18, 3) := by decide +kernel
theorem dX4_readOrder_114 : decode cX4_readOrder 114 = .ok (.aload_n 0, 1) := by decide +kernel
theorem dX4_readOrder_115 : decode cX4_readOrder 115 = .ok (.invokevirtual 67, 3) := by decide +kernel
theorem dX4_readOrder_118 : decode cX4_readOrder 118 = .ok (.ireturn, 1) := by decide +kernel
theorem dX4_readOrder_119 : decode cX4_readOrder 119 = .ok (.aload_n 0, 1) := by decide +kernel
theorem dX4_readOrder_120 : decode cX4_readOrder 120 = .ok (.dup, 1) := by decide +kernel
theorem dX4_readOrder_121 : decode cX4_readOrder 121 = .ok (.getfield 18, 3) := by decide +kernel
theorem dX4_readOrder_124 : decode cX4_readOrder 124 = .ok (.iconst 1, 1) := by decide +kernel
theorem dX4_readOrder_125 : decode cX4_readOrder 125 = .ok (.iadd, 1) := by decide +kernel
theorem dX4_readOrder_126 : decode cX4_readOrder 126 = .ok (.putfield 18, 3) := by decide +kernel
theorem dX4_readOrder_129 : decode cX4_readOrder 129 = .ok (.iconst 1, 1) := by decide +kernel
theorem dX4_readOrder_130 : decode cX4_readOrder 130 = .ok (.ireturn, 1) := by decide +kernel
theorem dX4_readOrder_131 : decode cX4_readOrder 131 = .ok (.aload_n 0, 1) := by decide +kernel
theorem dX4_readOrder_132 : decode cX4_readOrder 132 = .ok (.dup, 1) := by decide +kernel
theorem dX4_readOrder_133 : decode cX4_readOrder 133 = .ok (.getfield 18, 3) := by decide +kernel
theorem dX4_readOrder_136 : decode cX4_readOrder 136 = .ok (.iconst 1, 1) := by decide +kernel
theorem dX4_readOrder_137 : decode cX4_readOrder 137 = .ok (.iadd, 1) := by decide +kernel
theorem dX4_readOrder_138 : decode cX4_readOrder 138 = .ok (.putfield 18, 3) := by decide +kernel
theorem dX4_readOrder_141 : decode cX4_readOrder 141 = .ok (.aload_n 0, 1) := by decide +kernel
theorem dX4_readOrder_142 : decode cX4_readOrder 142 = .ok (.invokevirtual 70, 3) := by decide +kernel
theorem dX4_readOrder_145 : decode cX4_readOrder 145 = .ok (.ireturn, 1) := by decide +kernel
theorem dX4_readOrder_146 : decode cX4_readOrder 146 = .ok (.aload_n 0, 1) := by decide +kernel
theorem dX4_readOrder_147 : decode cX4_readOrder 147 = .ok (.dup, 1) := by decide +kernel
theorem dX4_readOrder_148 : decode cX4_readOrder 148 = .ok (.getfield 18, 3) := by decide +kernel
theorem dX4_readOrder_151 : decode cX4_readOrder 151 = .ok (.iconst 1, 1) := by decide +kernel
theorem dX4_readOrder_152 : decode cX4_readOrder 152 = .ok (.iadd, 1) := by decide +kernel
theorem dX4_readOrder_153 : decode cX4_readOrder 153 = .ok (.putfield 18, 3) := by decide +kernel
theorem dX4_readOrder_156 : decode cX4_readOrder 156 = .ok (.aload_n 0, 1) := by decide +kernel
theorem dX4_readOrder_157 : decode cX4_readOrder 157 = .ok (.invokevirtual 73, 3) := by decide +kernel
theorem dX4_readOrder_160 : decode cX4_readOrder 160 = .ok (.ireturn, 1) := by decide +kernel
theorem dX4_readOrder_161 : decode cX4_readOrder 161 = .ok (.aload_n 0, 1) := by decide +kernel
theorem dX4_readOrder_162 : decode cX4_readOrder 162 = .ok (.dup, 1) := by decide +kernel
theorem dX4_readOrder_163 : decode cX4_readOrder 163 = .ok (.getfield 18, 3) := by decide +kernel
theorem dX4_readOrder_166 : decode cX4_readOrder 166 = .ok (.iconst 1, 1) := by decide +kernel
theorem dX4_readOrder_167 : decode cX4_readOrder 167 = .ok (.iadd, 1) := by decide +kernel
theorem dX4_readOrder_168 : decode cX4_readOrder 168 = .ok (.putfield 18, 3) := by decide +kernel
theorem dX4_readOrder_171 : decode cX4_readOrder 171 = .ok (.aload_n 0, 1) := by decide +kernel
theorem dX4_readOrder_172 : decode cX4_readOrder 172 = .ok (.invokevirtual 73, 3) := by decide +kernel
theorem dX4_readOrder_175 : decode cX4_readOrder 175 = .ok (.ifCond .eq 23, 3) := by decide +kernel
theorem dX4_readOrder_178 : decode cX4_readOrder 178 = .ok (.aload_n 0, 1) := by decide +kernel
theorem dX4_readOrder_179 : decode cX4_readOrder 179 = .ok (.bipush 42, 2) := by decide +kernel
theorem dX4_readOrder_181 : decode cX4_readOrder 181 = .ok (.invokevirtual 56, 3) := by decide +kernel
theorem dX4_readOrder_184 : decode cX4_readOrder 184 = .ok (.ifCond .eq 14, 3) := by decide +kernel
theorem dX4_readOrder_187 : decode cX4_readOrder 187 = .ok (.aload_n 0, 1) := by decide +kernel
theorem dX4_readOrder_188 : decode cX4_readOrder 188 = .ok (.invokevirtual 76, 3) := by decide +kernel
theorem dX4_readOrder_191 : decode cX4_readOrder 191 = .ok (.ifCond .eq 7, 3) := by decide +kernel
theorem dX4_readOrder_194 : decode cX4_readOrder 194 = .ok (.iconst 1, 1) := by decide +kernel
theorem dX4_readOrder_195 : decode cX4_readOrder 195 = .ok (.goto 4, 3) := by decide +kernel
theorem dX4_readOrder_198 : decode cX4_readOrder 198 = .ok (.iconst 0, 1) := by decide +kernel
theorem dX4_readOrder_199 : decode cX4_readOrder 199 = .ok (.ireturn, 1) := by decide +kernel
theorem dX4_readOrder_200 : decode cX4_readOrder 200 = .ok (.iconst 0, 1) := by decide +kernel
theorem dX4_readOrder_201 : decode cX4_readOrder 201 = .ok (.ireturn, 1) := by decide +kernel
theorem dX4_readBars_0 : decode cX4_readBars 0 = .ok (.aload_n 0, 1) := by decide +kernel
theorem dX4_readBars_1 : decode cX4_readBars 1 = .ok (.iconst 0, 1) := by decide +kernel
theorem dX4_readBars_2 : decode cX4_readBars 2 = .ok (.putfield 43, 3) := by decide +kernel
theorem dX4_readBars_5 : decode cX4_readBars 5 = .ok (.aload_n 0, 1) := by decide +kernel
theorem dX4_readBars_6 : decode cX4_readBars 6 = .ok (.getfield 43, 3) := by decide +kernel
theorem dX4_readBars_9 : decode cX4_readBars 9 = .ok (.bipush 20, 2) := by decide +kernel
theorem dX4_readBars_11 : decode cX4_readBars 11 = .ok (.if_icmp .ge 81, 3) := by decide +kernel
theorem dX4_readBars_14 : decode cX4_readBars 14 = .ok (.aload_n 0, 1) := by decide +kernel
theorem dX4_readBars_15 : decode cX4_readBars 15 = .ok (.getfield 12, 3) := by decide +kernel
theorem dX4_readBars_18 : decode cX4_readBars 18 = .ok (.aload_n 0, 1) := by decide +kernel
theorem dX4_readBars_19 : decode cX4_readBars 19 = .ok (.getfield 18, 3) := by decide +kernel
theorem dX4_readBars_22 : decode cX4_readBars 22 = .ok (.invokevirtual 63, 3) := by decide +kernel
theorem dX4_readBars_25 : decode cX4_readBars 25 = .ok (.bipush 97, 2) := by decide +kernel
theorem dX4_readBars_27 : decode cX4_readBars 27 = .ok (.if_icmp .lt 65, 3) := by decide +kernel
theorem dX4_readBars_30 : decode cX4_readBars 30 = .ok (.aload_n 0, 1) := by decide +kernel
theorem dX4_readBars_31 : decode cX4_readBars 31 = .ok (.getfield 12, 3) := by decide +kernel
theorem dX4_readBars_34 : decode cX4_readBars 34 = .ok (.aload_n 0, 1) := by decide +kernel
theorem dX4_readBars_35 : decode cX4_readBars 35 = .ok (.getfield 18, 3) := by decide +kernel
theorem dX4_readBars_38 : decode cX4_readBars 38 = .ok (.invokevirtual 63, 3) := by decide +kernel
theorem dX4_readBars_41 : decode cX4_readBars 41 = .ok (.bipush 122, 2) := by decide +kernel
theorem dX4_readBars_43 : decode cX4_readBars 43 = .ok (.if_icmp .gt 49, 3) := by decide +kernel
theorem dX4_readBars_46 : decode cX4_readBars 46 = .ok (.aload_n 0, 1) := by decide +kernel
theorem dX4_readBars_47 : decode cX4_readBars 47 = .ok (.getfield 39, 3) := by decide +kernel
theorem dX4_readBars_50 : decode cX4_readBars 50 = .ok (.aload_n 0, 1) := by decide +kernel
theorem dX4_readBars_51 : decode cX4_readBars 51 = .ok (.getfield 43, 3) := by decide +kernel
theorem dX4_readBars_54 : decode cX4_readBars 54 = .ok (.aload_n 0, 1) := by decide +kernel
theorem dX4_readBars_55 : decode cX4_readBars 55 = .ok (.getfield 12, 3) := by decide +kernel
theorem dX4_readBars_58 : decode cX4_readBars 58 = .ok (.aload_n 0, 1) := by decide +kernel
theorem dX4_readBars_59 : decode cX4_readBars 59 = .ok (.getfield 18, 3) := by decide +kernel
theorem dX4_readBars_62 : decode cX4_readBars 62 = .ok (.invokevirtual 63, 3) := by decide +kernel
theorem dX4_readBars_65 : decode cX4_readBars 65 = .ok (.bipush 97, 2) := by decide +kernel
theorem dX4_readBars_67 : decode cX4_readBars 67 = .ok (.isub, 1) := by decide +kernel
theorem dX4_readBars_68 : decode cX4_readBars 68 = .ok (.iastore, 1) := by decide +kernel
theorem dX4_readBars_69 : decode cX4_readBars 69 = .ok (.aload_n 0, 1) := by decide +kernel
theorem dX4_readBars_70 : decode cX4_readBars 70 = .ok (.dup, 1) := by decide +kernel
theorem dX4_readBars_71 : decode cX4_readBars 71 = .ok (.getfield 43, 3) := by decide +kernel
theorem dX4_readBars_74 : decode cX4_readBars 74 = .ok (.iconst 1, 1) := by decide +kernel
theorem dX4_readBars_75 : decode cX4_readBars 75 = .ok (.iadd, 1) := by decide +kernel
theorem dX4_readBars_76 : decode cX4_readBars 76 = .ok (.putfield 43, 3) := by decide +kernel
theorem dX4_readBars_79 : decode cX4_readBars 79 = .ok (.aload_n 0, 1) := by decide +kernel
theorem dX4_readBars_80 : decode cX4_readBars 80 = .ok (.dup, 1) := by decide +kernel
theorem dX4_readBars_81 : decode cX4_readBars 81 = .ok (.getfield 18, 3) := by decide +kernel
theorem dX4_readBars_84 : decode cX4_readBars 84 = .ok (.iconst 1, 1) := by decide +kernel
theorem dX4_readBars_85 : decode cX4_readBars 85 = .ok (.iadd, 1) := by decide +kernel
theorem dX4_readBars_86 : decode cX4_readBars 86 = .ok (.putfield 18, 3) := by decide +kernel
theorem dX4_readBars_89 : decode cX4_readBars 89 = .ok (.goto (-84), 3) := by decide +kernel
theorem dX4_readBars_92 : decode cX4_readBars 92 = .ok (.aload_n 0, 1) := by decide +kernel
theorem dX4_readBars_93 : decode cX4_readBars 93 = .ok (.getfield 43, 3) := by decide +kernel
theorem dX4_readBars_96 : decode cX4_readBars 96 = .ok (.ifCond .le 7, 3) := by decide +kernel
theorem dX4_readBars_99 : decode cX4_readBars 99 = .ok (.iconst 1, 1) := by decide +kernel
theorem dX4_readBars_100 : decode cX4_readBars 100 = .ok (.goto 4, 3) := by decide +kernel
theorem dX4_readBars_103 : decode cX4_readBars 103 = .ok (.iconst 0, 1) := by decide +kernel
theorem dX4_readBars_104 : decode cX4_readBars 104 = .ok (.ireturn, 1) := by decide +kernel
theorem dX4_readLesson_0 : decode cX4_readLesson 0 = .ok (.aload_n 0, 1) := by decide +kernel
theorem dX4_readLesson_1 : decode cX4_readLesson 1 = .ok (.invokevirtual 73, 3) := by decide +kernel
theorem dX4_readLesson_4 : decode cX4_readLesson 4 = .ok (.ifCond .eq 19, 3) := by decide +kernel
theorem dX4_readLesson_7 : decode cX4_readLesson 7 = .ok (.aload_n 0, 1) := by decide +kernel
theorem dX4_readLesson_8 : decode cX4_readLesson 8 = .ok (.bipush 46, 2) := by decide +kernel
theorem dX4_readLesson_10 : decode cX4_readLesson 10 = .ok (.invokevirtual 56, 3) := by decide +kernel
theorem dX4_readLesson_13 : decode cX4_readLesson 13 = .ok (.ifCond .eq 10, 3) := by decide +kernel
theorem dX4_readLesson_16 : decode cX4_readLesson 16 = .ok (.aload_n 0, 1) := by decide +kernel
theorem dX4_readLesson_17 : decode cX4_readLesson 17 = .ok (.invokevirtual 79, 3) := by decide +kernel
theorem dX4_readLesson_20 : decode cX4_readLesson 20 = .ok (.ifCond .ne 5, 3) := by decide +kernel
theorem dX4_readLesson_23 : decode cX4_readLesson 23 = .ok (.iconst 0, 1) := by decide +kernel
theorem dX4_readLesson_24 : decode cX4_readLesson 24 = .ok (.ireturn, 1) := by decide +kernel
theorem dX4_readLesson_25 : decode cX4_readLesson 25 = .ok (.aload_n 0, 1) := by decide +kernel
theorem dX4_readLesson_26 : decode cX4_readLesson 26 = .ok (.aload_n 0, 1) := by decide +kernel
theorem dX4_readLesson_27 : decode cX4_readLesson 27 = .ok (.invokevirtual 82, 3) := by decide +kernel
theorem dX4_readLesson_30 : decode cX4_readLesson 30 = .ok (.putfield 33, 3) := by decide +kernel
theorem dX4_readLesson_33 : decode cX4_readLesson 33 = .ok (.aload_n 0, 1) := by decide +kernel
theorem dX4_readLesson_34 : decode cX4_readLesson 34 = .ok (.iconst 0, 1) := by decide +kernel
theorem dX4_readLesson_35 : decode cX4_readLesson 35 = .ok (.putfield 36, 3) := by decide +kernel
theorem dX4_readLesson_38 : decode cX4_readLesson 38 = .ok (.aload_n 0, 1) := by decide +kernel
theorem dX4_readLesson_39 : decode cX4_readLesson 39 = .ok (.bipush 47, 2) := by decide +kernel
theorem dX4_readLesson_41 : decode cX4_readLesson 41 = .ok (.invokevirtual 56, 3) := by decide +kernel
theorem dX4_readLesson_44 : decode cX4_readLesson 44 = .ok (.ifCond .eq 10, 3) := by decide +kernel
theorem dX4_readLesson_47 : decode cX4_readLesson 47 = .ok (.aload_n 0, 1) := by decide +kernel
theorem dX4_readLesson_48 : decode cX4_readLesson 48 = .ok (.invokevirtual 76, 3) := by decide +kernel
theorem dX4_readLesson_51 : decode cX4_readLesson 51 = .ok (.ifCond .eq 7, 3) := by decide +kernel
theorem dX4_readLesson_54 : decode cX4_readLesson 54 = .ok (.iconst 1, 1) := by decide +kernel
theorem dX4_readLesson_55 : decode cX4_readLesson 55 = .ok (.goto 4, 3) := by decide +kernel
theorem dX4_readLesson_58 : decode cX4_readLesson 58 = .ok (.iconst 0, 1) := by decide +kernel
theorem dX4_readLesson_59 : decode cX4_readLesson 59 = .ok (.ireturn, 1) := by decide +kernel
theorem dX4_readParrot_0 : decode cX4_readParrot 0 = .ok (.aload_n 0, 1) := by decide +kernel
theorem dX4_readParrot_1 : decode cX4_readParrot 1 = .ok (.invokevirtual 79, 3) := by decide +kernel
theorem dX4_readParrot_4 : decode cX4_readParrot 4 = .ok (.ifCond .ne 5, 3) := by decide +kernel
theorem dX4_readParrot_7 : decode cX4_readParrot 7 = .ok (.iconst 0, 1) := by decide +kernel
theorem dX4_readParrot_8 : decode cX4_readParrot 8 = .ok (.ireturn, 1) := by decide +kernel
theorem dX4_readParrot_9 : decode cX4_readParrot 9 = .ok (.aload_n 0, 1) := by decide +kernel
theorem dX4_readParrot_10 : decode cX4_readParrot 10 = .ok (.aload_n 0, 1) := by decide +kernel
theorem dX4_readParrot_11 : decode cX4_readParrot 11 = .ok (.invokevirtual 82, 3) := by decide +kernel
theorem dX4_readParrot_14 : decode cX4_readParrot 14 = .ok (.putfield 30, 3) := by decide +kernel
theorem dX4_readParrot_17 : decode cX4_readParrot 17 = .ok (.iconst 1, 1) := by decide +kernel
theorem dX4_readParrot_18 : decode cX4_readParrot 18 = .ok (.ireturn, 1) := by decide +kernel
theorem dX4_readNumber_0 : decode cX4_readNumber 0 = .ok (.aload_n 0, 1) := by decide +kernel
theorem dX4_readNumber_1 : decode cX4_readNumber 1 = .ok (.invokevirtual 79, 3) := by decide +kernel
theorem dX4_readNumber_4 : decode cX4_readNumber 4 = .ok (.ifCond .ne 5, 3) := by decide +kernel
theorem dX4_readNumber_7 : decode cX4_readNumber 7 = .ok (.iconst 0, 1) := by decide +kernel
theorem dX4_readNumber_8 : decode cX4_readNumber 8 = .ok (.ireturn, 1) := by decide +kernel
theorem dX4_readNumber_9 : decode cX4_readNumber 9 = .ok (.aload_n 0, 1) := by decide +kernel
theorem dX4_readNumber_10 : decode cX4_readNumber 10 = .ok (.aload_n 0, 1) := by decide +kernel
theorem dX4_readNumber_11 : decode cX4_readNumber 11 = .ok (.invokevirtual 82, 3) := by decide +kernel
theorem dX4_readNumber_14 : decode cX4_readNumber 14 = .ok (.putfield 36, 3) := by decide +kernel
theorem dX4_readNumber_17 : decode cX4_readNumber 17 = .ok (.aload_n 0, 1) := by decide +kernel
theorem dX4_readNumber_18 : decode cX4_readNumber 18 = .ok (.getfield 36, 3) := by decide +kernel
theorem dX4_readNumber_21 : decode cX4_readNumber 21 = .ok (.ifCond .le 26, 3) := by decide +kernel
theorem dX4_readNumber_24 : decode cX4_readNumber 24 = .ok (.aload_n 0, 1) := by decide +kernel
theorem dX4_readNumber_25 : decode cX4_readNumber 25 = .ok (.invokevirtual 79, 3) := by decide +kernel
theorem dX4_readNumber_28 : decode cX4_readNumber 28 = .ok (.ifCond .eq 19, 3) := by decide +kernel
theorem dX4_readNumber_31 : decode cX4_readNumber 31 = .ok (.aload_n 0, 1) := by decide +kernel
theorem dX4_readNumber_32 : decode cX4_readNumber 32 = .ok (.bipush 10, 2) := by decide +kernel
theorem dX4_readNumber_34 : decode cX4_readNumber 34 = .ok (.aload_n 0, 1) := by decide +kernel
theorem dX4_readNumber_35 : decode cX4_readNumber 35 = .ok (.getfield 36, 3) := by decide +kernel
theorem dX4_readNumber_38 : decode cX4_readNumber 38 = .ok (.imul, 1) := by decide +kernel
theorem dX4_readNumber_39 : decode cX4_readNumber 39 = .ok (.aload_n 0, 1) := by decide +kernel
theorem dX4_readNumber_40 : decode cX4_readNumber 40 = .ok (.invokevirtual 82, 3) := by decide +kernel
theorem dX4_readNumber_43 : decode cX4_readNumber 43 = .ok (.iadd, 1) := by decide +kernel
theorem dX4_readNumber_44 : decode cX4_readNumber 44 = .ok (.putfield 36, 3) := by decide +kernel
theorem dX4_readNumber_47 : decode cX4_readNumber 47 = .ok (.iconst 1, 1) := by decide +kernel
theorem dX4_readNumber_48 : decode cX4_readNumber 48 = .ok (.ireturn, 1) := by decide +kernel
theorem dX4_isDigit_0 : decode cX4_isDigit 0 = .ok (.aload_n 0, 1) := by decide +kernel
theorem dX4_isDigit_1 : decode cX4_isDigit 1 = .ok (.getfield 12, 3) := by decide +kernel
theorem dX4_isDigit_4 : decode cX4_isDigit 4 = .ok (.aload_n 0, 1) := by decide +kernel
theorem dX4_isDigit_5 : decode cX4_isDigit 5 = .ok (.getfield 18, 3) := by decide +kernel
theorem dX4_isDigit_8 : decode cX4_isDigit 8 = .ok (.invokevirtual 63, 3) := by decide +kernel
theorem dX4_isDigit_11 : decode cX4_isDigit 11 = .ok (.bipush 48, 2) := by decide +kernel
theorem dX4_isDigit_13 : decode cX4_isDigit 13 = .ok (.if_icmp .lt 23, 3) := by decide +kernel
theorem dX4_isDigit_16 : decode cX4_isDigit 16 = .ok (.aload_n 0, 1) := by decide +kernel
theorem dX4_isDigit_17 : decode cX4_isDigit 17 = .ok (.getfield 12, 3) := by decide +kernel
theorem dX4_isDigit_20 : decode cX4_isDigit 20 = .ok (.aload_n 0, 1) := by decide +kernel
theorem dX4_isDigit_21 : decode cX4_isDigit 21 = .ok (.getfield 18, 3) := by decide +kernel
theorem dX4_isDigit_24 : decode cX4_isDigit 24 = .ok (.invokevirtual 63, 3) := by decide +kernel
theorem dX4_isDigit_27 : decode cX4_isDigit 27 = .ok (.bipush 57, 2) := by decide +kernel
theorem dX4_isDigit_29 : decode cX4_isDigit 29 = .ok (.if_icmp .gt 7, 3) := by decide +kernel
theorem dX4_isDigit_32 : decode cX4_isDigit 32 = .ok (.iconst 1, 1) := by decide +kernel
theorem dX4_isDigit_33 : decode cX4_isDigit 33 = .ok (.goto 4, 3) := by decide +kernel
theorem dX4_isDigit_36 : decode cX4_isDigit 36 = .ok (.iconst 0, 1) := by decide +kernel
theorem dX4_isDigit_37 : decode cX4_isDigit 37 = .ok (.ireturn, 1) := by decide +kernel
theorem dX4_takeDigit_0 : decode cX4_takeDigit 0 = .ok (.aload_n 0, 1) := by decide +kernel
theorem dX4_takeDigit_1 : decode cX4_takeDigit 1 = .ok (.getfield 12, 3) := by decide +kernel
theorem dX4_takeDigit_4 : decode cX4_takeDigit 4 = .ok (.aload_n 0, 1) := by decide +kernel
theorem dX4_takeDigit_5 : decode cX4_takeDigit 5 = .ok (.getfield 18, 3) := by decide +kernel
theorem dX4_takeDigit_8 : decode cX4_takeDigit 8 = .ok (.invokevirtual 63, 3) := by decide +kernel
theorem dX4_takeDigit_11 : decode cX4_takeDigit 11 = .ok (.bipush 48, 2) := by decide +kernel
theorem dX4_takeDigit_13 : decode cX4_takeDigit 13 = .ok (.isub, 1) := by decide +kernel
theorem dX4_takeDigit_14 : decode cX4_takeDigit 14 = .ok (.istore_n 1, 1) := by decide +kernel
theorem dX4_takeDigit_15 : decode cX4_takeDigit 15 = .ok (.aload_n 0, 1) := by decide +kernel
theorem dX4_takeDigit_16 : decode cX4_takeDigit 16 = .ok (.dup, 1) := by decide +kernel
theorem dX4_takeDigit_17 : decode cX4_takeDigit 17 = .ok (.getfield 18, 3) := by decide +kernel
theorem dX4_takeDigit_20 : decode cX4_takeDigit 20 = .ok (.iconst 1, 1) := by decide +kernel
theorem dX4_takeDigit_21 : decode cX4_takeDigit 21 = .ok (.iadd, 1) := by decide +kernel
theorem dX4_takeDigit_22 : decode cX4_takeDigit 22 = .ok (.putfield 18, 3) := by decide +kernel
theorem dX4_takeDigit_25 : decode cX4_takeDigit 25 = .ok (.iload_n 1, 1) := by decide +kernel
theorem dX4_takeDigit_26 : decode cX4_takeDigit 26 = .ok (.ireturn, 1) := by decide +kernel
theorem dX4_take_0 : decode cX4_take 0 = .ok (.aload_n 0, 1) := by decide +kernel
theorem dX4_take_1 : decode cX4_take 1 = .ok (.getfield 12, 3) := by decide +kernel
theorem dX4_take_4 : decode cX4_take 4 = .ok (.aload_n 0, 1) := by decide +kernel
theorem dX4_take_5 : decode cX4_take 5 = .ok (.getfield 18, 3) := by decide +kernel
theorem dX4_take_8 : decode cX4_take 8 = .ok (.invokevirtual 63, 3) := by decide +kernel
theorem dX4_take_11 : decode cX4_take 11 = .ok (.iload_n 1, 1) := by decide +kernel
theorem dX4_take_12 : decode cX4_take 12 = .ok (.if_icmp .eq 5, 3) := by decide +kernel
theorem dX4_take_15 : decode cX4_take 15 = .ok (.iconst 0, 1) := by decide +kernel
theorem dX4_take_16 : decode cX4_take 16 = .ok (.ireturn, 1) := by decide +kernel
theorem dX4_take_17 : decode cX4_take 17 = .ok (.aload_n 0, 1) := by decide +kernel
theorem dX4_take_18 : decode cX4_take 18 = .ok (.dup, 1) := by decide +kernel
theorem dX4_take_19 : decode cX4_take 19 = .ok (.getfield 18, 3) := by decide +kernel
theorem dX4_take_22 : decode cX4_take 22 = .ok (.iconst 1, 1) := by decide +kernel
theorem dX4_take_23 : decode cX4_take 23 = .ok (.iadd, 1) := by decide +kernel
theorem dX4_take_24 : decode cX4_take 24 = .ok (.putfield 18, 3) := by decide +kernel
theorem dX4_take_27 : decode cX4_take 27 = .ok (.iconst 1, 1) := by decide +kernel
theorem dX4_take_28 : decode cX4_take 28 = .ok (.ireturn, 1) := by decide +kernel
theorem dX5_init_0 : decode cX5_init 0 = .ok (.aload_n 0, 1) := by decide +kernel
theorem dX5_init_1 : decode cX5_init 1 = .ok (.invokespecial 3, 3) := by decide +kernel
theorem dX5_init_4 : decode cX5_init 4 = .ok (.aload_n 0, 1) := by decide +kernel
theorem dX5_init_5 : decode cX5_init 5 = .ok (.bipush 8, 2) := by decide +kernel
theorem dX5_init_7 : decode cX5_init 7 = .ok (.bipush 20, 2) := by decide +kernel
theorem dX5_init_9 : decode cX5_init 9 = .ok (.multianewarray 9 2, 4) := by decide +kernel
theorem dX5_init_13 : decode cX5_init 13 = .ok (.putfield 11, 3) := by decide +kernel
theorem dX5_init_16 : decode cX5_init 16 = .ok (.aload_n 0, 1) := by decide +kernel
theorem dX5_init_17 : decode cX5_init 17 = .ok (.bipush 8, 2) := by decide +kernel
theorem dX5_init_19 : decode cX5_init 19 = .ok (.newarray .int, 2) := by decide +kernel
theorem dX5_init_21 : decode cX5_init 21 = .ok (.putfield 16, 3) := by decide +kernel
theorem dX5_init_24 : decode cX5_init 24 = .ok (.aload_n 0, 1) := by decide +kernel
theorem dX5_init_25 : decode cX5_init 25 = .ok (.bipush 8, 2) := by decide +kernel
theorem dX5_init_27 : decode cX5_init 27 = .ok (.newarray .int, 2) := by decide +kernel
theorem dX5_init_29 : decode cX5_init 29 = .ok (.putfield 20, 3) := by decide +kernel
theorem dX5_init_32 : decode cX5_init 32 = .ok (.aload_n 0, 1) := by decide +kernel
theorem dX5_init_33 : decode cX5_init 33 = .ok (.iconst 0, 1) := by decide +kernel
theorem dX5_init_34 : decode cX5_init 34 = .ok (.putfield 23, 3) := by decide +kernel
theorem dX5_init_37 : decode cX5_init 37 = .ok (.return_, 1) := by decide +kernel
theorem dX5_copyFrom_0 : decode cX5_copyFrom 0 = .ok (.iconst 0, 1) := by decide +kernel
theorem dX5_copyFrom_1 : decode cX5_copyFrom 1 = .ok (.istore_n 2, 1) := by decide +kernel
theorem dX5_copyFrom_2 : decode cX5_copyFrom 2 = .ok (.iload_n 2, 1) := by decide +kernel
theorem dX5_copyFrom_3 : decode cX5_copyFrom 3 = .ok (.bipush 8, 2) := by decide +kernel
theorem dX5_copyFrom_5 : decode cX5_copyFrom 5 = .ok (.if_icmp .ge 28, 3) := by decide +kernel
theorem dX5_copyFrom_8 : decode cX5_copyFrom 8 = .ok (.aload_n 1, 1) := by decide +kernel
theorem dX5_copyFrom_9 : decode cX5_copyFrom 9 = .ok (.getfield 11, 3) := by decide +kernel
theorem dX5_copyFrom_12 : decode cX5_copyFrom 12 = .ok (.iload_n 2, 1) := by decide +kernel
theorem dX5_copyFrom_13 : decode cX5_copyFrom 13 = .ok (.aaload, 1) := by decide +kernel
theorem dX5_copyFrom_14 : decode cX5_copyFrom 14 = .ok (.iconst 0, 1) := by decide +kernel
theorem dX5_copyFrom_15 : decode cX5_copyFrom 15 = .ok (.aload_n 0, 1) := by decide +kernel
theorem dX5_copyFrom_16 : decode cX5_copyFrom 16 = .ok (.getfield 11, 3) := by decide +kernel
theorem dX5_copyFrom_19 : decode cX5_copyFrom 19 = .ok (.iload_n 2, 1) := by decide +kernel
theorem dX5_copyFrom_20 : decode cX5_copyFrom 20 = .ok (.aaload, 1) := by decide +kernel
theorem dX5_copyFrom_21 : decode cX5_copyFrom 21 = .ok (.iconst 0, 1) := by decide +kernel
theorem dX5_copyFrom_22 : decode cX5_copyFrom 22 = .ok (.bipush 20, 2) := by decide +kernel
theorem dX5_copyFrom_24 : decode cX5_copyFrom 24 = .ok (.invokestatic 27, 3) := by decide +kernel
theorem dX5_copyFrom_27 : decode cX5_copyFrom 27 = .ok (.iinc 2 1, 3) := by decide +kernel
theorem dX5_copyFrom_30 : decode cX5_copyFrom 30 = .ok (.goto (-28), 3) := by decide +kernel
theorem dX5_copyFrom_33 : decode cX5_copyFrom 33 = .ok (.aload_n 1, 1) := by decide +kernel
theorem dX5_copyFrom_34 : decode cX5_copyFrom 34 = .ok (.getfield 16, 3) := by decide +kernel
theorem dX5_copyFrom_37 : decode cX5_copyFrom 37 = .ok (.iconst 0, 1) := by decide +kernel
theorem dX5_copyFrom_38 : decode cX5_copyFrom 38 = .ok (.aload_n 0, 1) := by decide +kernel
theorem dX5_copyFrom_39 : decode cX5_copyFrom 39 = .ok (.getfield 16, 3) := by decide +kernel
theorem dX5_copyFrom_42 : decode cX5_copyFrom 42 = .ok (.iconst 0, 1) := by decide +kernel
theorem dX5_copyFrom_43 : decode cX5_copyFrom 43 = .ok (.bipush 8, 2) := by decide +kernel
theorem dX5_copyFrom_45 : decode cX5_copyFrom 45 = .ok (.invokestatic 27, 3) := by decide +kernel
theorem dX5_copyFrom_48 : decode cX5_copyFrom 48 = .ok (.aload_n 1, 1) := by decide +kernel
theorem dX5_copyFrom_49 : decode cX5_copyFrom 49 = .ok (.getfield 20, 3) := by decide +kernel
theorem dX5_copyFrom_52 : decode cX5_copyFrom 52 = .ok (.iconst 0, 1) := by decide +kernel
theorem dX5_copyFrom_53 : decode cX5_copyFrom 53 = .ok (.aload_n 0, 1) := by decide +kernel
theorem dX5_copyFrom_54 : decode cX5_copyFrom 54 = .ok (.getfield 20, 3) := by decide +kernel
theorem dX5_copyFrom_57 : decode cX5_copyFrom 57 = .ok (.iconst 0, 1) := by decide +kernel
theorem dX5_copyFrom_58 : decode cX5_copyFrom 58 = .ok (.bipush 8, 2) := by decide +kernel
theorem dX5_copyFrom_60 : decode cX5_copyFrom 60 = .ok (.invokestatic 27, 3) := by decide +kernel
theorem dX5_copyFrom_63 : decode cX5_copyFrom 63 = .ok (.aload_n 0, 1) := by decide +kernel
theorem dX5_copyFrom_64 : decode cX5_copyFrom 64 = .ok (.aload_n 1, 1) := by decide +kernel
theorem dX5_copyFrom_65 : decode cX5_copyFrom 65 = .ok (.getfield 23, 3) := by decide +kernel
theorem dX5_copyFrom_68 : decode cX5_copyFrom 68 = .ok (.putfield 23, 3) := by decide +kernel
theorem dX5_copyFrom_71 : decode cX5_copyFrom 71 = .ok (.return_, 1) := by decide +kernel
theorem dX5_add_0 : decode cX5_add 0 = .ok (.aload_n 0, 1) := by decide +kernel
theorem dX5_add_1 : decode cX5_add 1 = .ok (.getfield 23, 3) := by decide +kernel
theorem dX5_add_4 : decode cX5_add 4 = .ok (.bipush 8, 2) := by decide +kernel
theorem dX5_add_6 : decode cX5_add 6 = .ok (.if_icmp .lt 6, 3) := by decide +kernel
theorem dX5_add_9 : decode cX5_add 9 = .ok (.bipush (-4), 2) := by decide +kernel
theorem dX5_add_11 : decode cX5_add 11 = .ok (.ireturn, 1) := by decide +kernel
theorem dX5_add_12 : decode cX5_add 12 = .ok (.iconst 0, 1) := by decide +kernel
theorem dX5_add_13 : decode cX5_add 13 = .ok (.iload_n 2, 1) := by decide +kernel
theorem dX5_add_14 : decode cX5_add 14 = .ok (.aload_n 1, 1) := by decide +kernel
theorem dX5_add_15 : decode cX5_add 15 = .ok (.arraylength, 1) := by decide +kernel
theorem dX5_add_16 : decode cX5_add 16 = .ok (.bipush 20, 2) := by decide +kernel
theorem dX5_add_18 : decode cX5_add 18 = .ok (.invokestatic 33, 3) := by decide +kernel
end
section
theorem dX5_add_21 : decode cX5_add 21 = .ok (.invokestatic 33, 3) := by decide +kernel
theorem dX5_add_24 : decode cX5_add 24 = .ok (.invokestatic 39, 3) := by decide +kernel
theorem dX5_add_27 : decode cX5_add 27 = .ok (.istore_n 3, 1) := by decide +kernel
theorem dX5_add_28 : decode cX5_add 28 = .ok (.aload_n 1, 1) := by decide +kernel
theorem dX5_add_29 : decode cX5_add 29 = .ok (.iconst 0, 1) := by decide +kernel
theorem dX5_add_30 : decode cX5_add 30 = .ok (.aload_n 0, 1) := by decide +kernel
theorem dX5_add_31 : decode cX5_add 31 = .ok (.getfield 11, 3) := by decide +kernel
theorem dX5_add_34 : decode cX5_add 34 = .ok (.aload_n 0, 1) := by decide +kernel
theorem dX5_add_35 : decode cX5_add 35 = .ok (.getfield 23, 3) := by decide +kernel
theorem dX5_add_38 : decode cX5_add 38 = .ok (.aaload, 1) := by decide +kernel
theorem dX5_add_39 : decode cX5_add 39 = .ok (.iconst 0, 1) := by decide +kernel
theorem dX5_add_40 : decode cX5_add 40 = .ok (.iload_n 3, 1) := by decide +kernel
theorem dX5_add_41 : decode cX5_add 41 = .ok (.invokestatic 27, 3) := by decide +kernel
theorem dX5_add_44 : decode cX5_add 44 = .ok (.aload_n 0, 1) := by decide +kernel
theorem dX5_add_45 : decode cX5_add 45 = .ok (.getfield 16, 3) := by decide +kernel
theorem dX5_add_48 : decode cX5_add 48 = .ok (.aload_n 0, 1) := by decide +kernel
theorem dX5_add_49 : decode cX5_add 49 = .ok (.getfield 23, 3) := by decide +kernel
theorem dX5_add_52 : decode cX5_add 52 = .ok (.iload_n 3, 1) := by decide +kernel
theorem dX5_add_53 : decode cX5_add 53 = .ok (.iastore, 1) := by decide +kernel
theorem dX5_add_54 : decode cX5_add 54 = .ok (.aload_n 0, 1) := by decide +kernel
theorem dX5_add_55 : decode cX5_add 55 = .ok (.getfield 20, 3) := by decide +kernel
theorem dX5_add_58 : decode cX5_add 58 = .ok (.aload_n 0, 1) := by decide +kernel
theorem dX5_add_59 : decode cX5_add 59 = .ok (.getfield 23, 3) := by decide +kernel
theorem dX5_add_62 : decode cX5_add 62 = .ok (.iconst 0, 1) := by decide +kernel
theorem dX5_add_63 : decode cX5_add 63 = .ok (.iastore, 1) := by decide +kernel
theorem dX5_add_64 : decode cX5_add 64 = .ok (.aload_n 0, 1) := by decide +kernel
theorem dX5_add_65 : decode cX5_add 65 = .ok (.dup, 1) := by decide +kernel
theorem dX5_add_66 : decode cX5_add 66 = .ok (.getfield 23, 3) := by decide +kernel
theorem dX5_add_69 : decode cX5_add 69 = .ok (.iconst 1, 1) := by decide +kernel
theorem dX5_add_70 : decode cX5_add 70 = .ok (.iadd, 1) := by decide +kernel
theorem dX5_add_71 : decode cX5_add 71 = .ok (.putfield 23, 3) := by decide +kernel
theorem dX5_add_74 : decode cX5_add 74 = .ok (.aload_n 0, 1) := by decide +kernel
theorem dX5_add_75 : decode cX5_add 75 = .ok (.getfield 23, 3) := by decide +kernel
theorem dX5_add_78 : decode cX5_add 78 = .ok (.iconst 1, 1) := by decide +kernel
theorem dX5_add_79 : decode cX5_add 79 = .ok (.isub, 1) := by decide +kernel
theorem dX5_add_80 : decode cX5_add 80 = .ok (.ireturn, 1) := by decide +kernel
theorem dX5_has_0 : decode cX5_has 0 = .ok (.iload_n 1, 1) := by decide +kernel
theorem dX5_has_1 : decode cX5_has 1 = .ok (.ifCond .lt 15, 3) := by decide +kernel
theorem dX5_has_4 : decode cX5_has 4 = .ok (.iload_n 1, 1) := by decide +kernel
theorem dX5_has_5 : decode cX5_has 5 = .ok (.aload_n 0, 1) := by decide +kernel
theorem dX5_has_6 : decode cX5_has 6 = .ok (.getfield 23, 3) := by decide +kernel
theorem dX5_has_9 : decode cX5_has 9 = .ok (.if_icmp .ge 7, 3) := by decide +kernel
theorem dX5_has_12 : decode cX5_has 12 = .ok (.iconst 1, 1) := by decide +kernel
theorem dX5_has_13 : decode cX5_has 13 = .ok (.goto 4, 3) := by decide +kernel
theorem dX5_has_16 : decode cX5_has 16 = .ok (.iconst 0, 1) := by decide +kernel
theorem dX5_has_17 : decode cX5_has 17 = .ok (.ireturn, 1) := by decide +kernel
theorem dX5_hasBar_0 : decode cX5_hasBar 0 = .ok (.aload_n 0, 1) := by decide +kernel
theorem dX5_hasBar_1 : decode cX5_hasBar 1 = .ok (.iload_n 1, 1) := by decide +kernel
theorem dX5_hasBar_2 : decode cX5_hasBar 2 = .ok (.invokevirtual 42, 3) := by decide +kernel
theorem dX5_hasBar_5 : decode cX5_hasBar 5 = .ok (.ifCond .eq 21, 3) := by decide +kernel
theorem dX5_hasBar_8 : decode cX5_hasBar 8 = .ok (.iload_n 2, 1) := by decide +kernel
theorem dX5_hasBar_9 : decode cX5_hasBar 9 = .ok (.ifCond .lt 17, 3) := by decide +kernel
theorem dX5_hasBar_12 : decode cX5_hasBar 12 = .ok (.iload_n 2, 1) := by decide +kernel
theorem dX5_hasBar_13 : decode cX5_hasBar 13 = .ok (.aload_n 0, 1) := by decide +kernel
theorem dX5_hasBar_14 : decode cX5_hasBar 14 = .ok (.getfield 16, 3) := by decide +kernel
theorem dX5_hasBar_17 : decode cX5_hasBar 17 = .ok (.iload_n 1, 1) := by decide +kernel
theorem dX5_hasBar_18 : decode cX5_hasBar 18 = .ok (.iaload, 1) := by decide +kernel
theorem dX5_hasBar_19 : decode cX5_hasBar 19 = .ok (.if_icmp .ge 7, 3) := by decide +kernel
theorem dX5_hasBar_22 : decode cX5_hasBar 22 = .ok (.iconst 1, 1) := by decide +kernel
theorem dX5_hasBar_23 : decode cX5_hasBar 23 = .ok (.goto 4, 3) := by decide +kernel
theorem dX5_hasBar_26 : decode cX5_hasBar 26 = .ok (.iconst 0, 1) := by decide +kernel
theorem dX5_hasBar_27 : decode cX5_hasBar 27 = .ok (.ireturn, 1) := by decide +kernel
theorem dX5_barAt_0 : decode cX5_barAt 0 = .ok (.aload_n 0, 1) := by decide +kernel
theorem dX5_barAt_1 : decode cX5_barAt 1 = .ok (.iload_n 1, 1) := by decide +kernel
theorem dX5_barAt_2 : decode cX5_barAt 2 = .ok (.iload_n 2, 1) := by decide +kernel
theorem dX5_barAt_3 : decode cX5_barAt 3 = .ok (.invokevirtual 46, 3) := by decide +kernel
theorem dX5_barAt_6 : decode cX5_barAt 6 = .ok (.ifCond .eq 14, 3) := by decide +kernel
theorem dX5_barAt_9 : decode cX5_barAt 9 = .ok (.aload_n 0, 1) := by decide +kernel
theorem dX5_barAt_10 : decode cX5_barAt 10 = .ok (.getfield 11, 3) := by decide +kernel
theorem dX5_barAt_13 : decode cX5_barAt 13 = .ok (.iload_n 1, 1) := by decide +kernel
theorem dX5_barAt_14 : decode cX5_barAt 14 = .ok (.aaload, 1) := by decide +kernel
theorem dX5_barAt_15 : decode cX5_barAt 15 = .ok (.iload_n 2, 1) := by decide +kernel
theorem dX5_barAt_16 : decode cX5_barAt 16 = .ok (.iaload, 1) := by decide +kernel
theorem dX5_barAt_17 : decode cX5_barAt 17 = .ok (.goto 5, 3) := by decide +kernel
theorem dX5_barAt_20 : decode cX5_barAt 20 = .ok (.bipush (-6), 2) := by decide +kernel
theorem dX5_barAt_22 : decode cX5_barAt 22 = .ok (.ireturn, 1) := by decide +kernel
theorem dX5_lengthOf_0 : decode cX5_lengthOf 0 = .ok (.aload_n 0, 1) := by decide +kernel
theorem dX5_lengthOf_1 : decode cX5_lengthOf 1 = .ok (.iload_n 1, 1) := by decide +kernel
theorem dX5_lengthOf_2 : decode cX5_lengthOf 2 = .ok (.invokevirtual 42, 3) := by decide +kernel
theorem dX5_lengthOf_5 : decode cX5_lengthOf 5 = .ok (.ifCond .eq 12, 3) := by decide +kernel
theorem dX5_lengthOf_8 : decode cX5_lengthOf 8 = .ok (.aload_n 0, 1) := by decide +kernel
theorem dX5_lengthOf_9 : decode cX5_lengthOf 9 = .ok (.getfield 16, 3) := by decide +kernel
theorem dX5_lengthOf_12 : decode cX5_lengthOf 12 = .ok (.iload_n 1, 1) := by decide +kernel
theorem dX5_lengthOf_13 : decode cX5_lengthOf 13 = .ok (.iaload, 1) := by decide +kernel
theorem dX5_lengthOf_14 : decode cX5_lengthOf 14 = .ok (.goto 4, 3) := by decide +kernel
theorem dX5_lengthOf_17 : decode cX5_lengthOf 17 = .ok (.iconst 0, 1) := by decide +kernel
theorem dX5_lengthOf_18 : decode cX5_lengthOf 18 = .ok (.ireturn, 1) := by decide +kernel
theorem dX5_lastBar_0 : decode cX5_lastBar 0 = .ok (.aload_n 0, 1) := by decide +kernel
theorem dX5_lastBar_1 : decode cX5_lastBar 1 = .ok (.iload_n 1, 1) := by decide +kernel
theorem dX5_lastBar_2 : decode cX5_lastBar 2 = .ok (.aload_n 0, 1) := by decide +kernel
theorem dX5_lastBar_3 : decode cX5_lastBar 3 = .ok (.iload_n 1, 1) := by decide +kernel
theorem dX5_lastBar_4 : decode cX5_lastBar 4 = .ok (.invokevirtual 50, 3) := by decide +kernel
theorem dX5_lastBar_7 : decode cX5_lastBar 7 = .ok (.iconst 1, 1) := by decide +kernel
theorem dX5_lastBar_8 : decode cX5_lastBar 8 = .ok (.isub, 1) := by decide +kernel
theorem dX5_lastBar_9 : decode cX5_lastBar 9 = .ok (.invokevirtual 54, 3) := by decide +kernel
theorem dX5_lastBar_12 : decode cX5_lastBar 12 = .ok (.ireturn, 1) := by decide +kernel
theorem dX5_unlikeBars_0 : decode cX5_unlikeBars 0 = .ok (.iconst 0, 1) := by decide +kernel
theorem dX5_unlikeBars_1 : decode cX5_unlikeBars 1 = .ok (.istore_n 2, 1) := by decide +kernel
theorem dX5_unlikeBars_2 : decode cX5_unlikeBars 2 = .ok (.iconst 0, 1) := by decide +kernel
theorem dX5_unlikeBars_3 : decode cX5_unlikeBars 3 = .ok (.istore_n 3, 1) := by decide +kernel
theorem dX5_unlikeBars_4 : decode cX5_unlikeBars 4 = .ok (.iload_n 3, 1) := by decide +kernel
theorem dX5_unlikeBars_5 : decode cX5_unlikeBars 5 = .ok (.aload_n 0, 1) := by decide +kernel
theorem dX5_unlikeBars_6 : decode cX5_unlikeBars 6 = .ok (.iload_n 1, 1) := by decide +kernel
theorem dX5_unlikeBars_7 : decode cX5_unlikeBars 7 = .ok (.invokevirtual 50, 3) := by decide +kernel
theorem dX5_unlikeBars_10 : decode cX5_unlikeBars 10 = .ok (.if_icmp .ge 20, 3) := by decide +kernel
theorem dX5_unlikeBars_13 : decode cX5_unlikeBars 13 = .ok (.iload_n 2, 1) := by decide +kernel
theorem dX5_unlikeBars_14 : decode cX5_unlikeBars 14 = .ok (.iconst 1, 1) := by decide +kernel
theorem dX5_unlikeBars_15 : decode cX5_unlikeBars 15 = .ok (.aload_n 0, 1) := by decide +kernel
theorem dX5_unlikeBars_16 : decode cX5_unlikeBars 16 = .ok (.iload_n 1, 1) := by decide +kernel
theorem dX5_unlikeBars_17 : decode cX5_unlikeBars 17 = .ok (.iload_n 3, 1) := by decide +kernel
theorem dX5_unlikeBars_18 : decode cX5_unlikeBars 18 = .ok (.invokevirtual 54, 3) := by decide +kernel
theorem dX5_unlikeBars_21 : decode cX5_unlikeBars 21 = .ok (.ishl, 1) := by decide +kernel
theorem dX5_unlikeBars_22 : decode cX5_unlikeBars 22 = .ok (.ior, 1) := by decide +kernel
theorem dX5_unlikeBars_23 : decode cX5_unlikeBars 23 = .ok (.istore_n 2, 1) := by decide +kernel
theorem dX5_unlikeBars_24 : decode cX5_unlikeBars 24 = .ok (.iinc 3 1, 3) := by decide +kernel
theorem dX5_unlikeBars_27 : decode cX5_unlikeBars 27 = .ok (.goto (-23), 3) := by decide +kernel
theorem dX5_unlikeBars_30 : decode cX5_unlikeBars 30 = .ok (.iload_n 2, 1) := by decide +kernel
theorem dX5_unlikeBars_31 : decode cX5_unlikeBars 31 = .ok (.invokestatic 57, 3) := by decide +kernel
theorem dX5_unlikeBars_34 : decode cX5_unlikeBars 34 = .ok (.ireturn, 1) := by decide +kernel
theorem dX5_countLesson_0 : decode cX5_countLesson 0 = .ok (.aload_n 0, 1) := by decide +kernel
theorem dX5_countLesson_1 : decode cX5_countLesson 1 = .ok (.iload_n 1, 1) := by decide +kernel
theorem dX5_countLesson_2 : decode cX5_countLesson 2 = .ok (.invokevirtual 42, 3) := by decide +kernel
theorem dX5_countLesson_5 : decode cX5_countLesson 5 = .ok (.ifCond .eq 13, 3) := by decide +kernel
theorem dX5_countLesson_8 : decode cX5_countLesson 8 = .ok (.aload_n 0, 1) := by decide +kernel
theorem dX5_countLesson_9 : decode cX5_countLesson 9 = .ok (.getfield 20, 3) := by decide +kernel
theorem dX5_countLesson_12 : decode cX5_countLesson 12 = .ok (.iload_n 1, 1) := by decide +kernel
theorem dX5_countLesson_13 : decode cX5_countLesson 13 = .ok (.dup2, 1) := by decide +kernel
theorem dX5_countLesson_14 : decode cX5_countLesson 14 = .ok (.iaload, 1) := by decide +kernel
theorem dX5_countLesson_15 : decode cX5_countLesson 15 = .ok (.iconst 1, 1) := by decide +kernel
theorem dX5_countLesson_16 : decode cX5_countLesson 16 = .ok (.iadd, 1) := by decide +kernel
theorem dX5_countLesson_17 : decode cX5_countLesson 17 = .ok (.iastore, 1) := by decide +kernel
theorem dX5_countLesson_18 : decode cX5_countLesson 18 = .ok (.return_, 1) := by decide +kernel
theorem dX5_lessonsWith_0 : decode cX5_lessonsWith 0 = .ok (.aload_n 0, 1) := by decide +kernel
theorem dX5_lessonsWith_1 : decode cX5_lessonsWith 1 = .ok (.iload_n 1, 1) := by decide +kernel
theorem dX5_lessonsWith_2 : decode cX5_lessonsWith 2 = .ok (.invokevirtual 42, 3) := by decide +kernel
theorem dX5_lessonsWith_5 : decode cX5_lessonsWith 5 = .ok (.ifCond .eq 12, 3) := by decide +kernel
theorem dX5_lessonsWith_8 : decode cX5_lessonsWith 8 = .ok (.aload_n 0, 1) := by decide +kernel
theorem dX5_lessonsWith_9 : decode cX5_lessonsWith 9 = .ok (.getfield 20, 3) := by decide +kernel
theorem dX5_lessonsWith_12 : decode cX5_lessonsWith 12 = .ok (.iload_n 1, 1) := by decide +kernel
theorem dX5_lessonsWith_13 : decode cX5_lessonsWith 13 = .ok (.iaload, 1) := by decide +kernel
theorem dX5_lessonsWith_14 : decode cX5_lessonsWith 14 = .ok (.goto 4, 3) := by decide +kernel
theorem dX5_lessonsWith_17 : decode cX5_lessonsWith 17 = .ok (.iconst 0, 1) := by decide +kernel
theorem dX5_lessonsWith_18 : decode cX5_lessonsWith 18 = .ok (.ireturn, 1) := by decide +kernel
theorem dX5_lessonsInAll_0 : decode cX5_lessonsInAll 0 = .ok (.iconst 0, 1) := by decide +kernel
theorem dX5_lessonsInAll_1 : decode cX5_lessonsInAll 1 = .ok (.istore_n 1, 1) := by decide +kernel
theorem dX5_lessonsInAll_2 : decode cX5_lessonsInAll 2 = .ok (.iconst 0, 1) := by decide +kernel
theorem dX5_lessonsInAll_3 : decode cX5_lessonsInAll 3 = .ok (.istore_n 2, 1) := by decide +kernel
theorem dX5_lessonsInAll_4 : decode cX5_lessonsInAll 4 = .ok (.iload_n 2, 1) := by decide +kernel
theorem dX5_lessonsInAll_5 : decode cX5_lessonsInAll 5 = .ok (.aload_n 0, 1) := by decide +kernel
theorem dX5_lessonsInAll_6 : decode cX5_lessonsInAll 6 = .ok (.getfield 23, 3) := by decide +kernel
theorem dX5_lessonsInAll_9 : decode cX5_lessonsInAll 9 = .ok (.if_icmp .ge 18, 3) := by decide +kernel
theorem dX5_lessonsInAll_12 : decode cX5_lessonsInAll 12 = .ok (.iload_n 1, 1) := by decide +kernel
theorem dX5_lessonsInAll_13 : decode cX5_lessonsInAll 13 = .ok (.aload_n 0, 1) := by decide +kernel
theorem dX5_lessonsInAll_14 : decode cX5_lessonsInAll 14 = .ok (.getfield 20, 3) := by decide +kernel
theorem dX5_lessonsInAll_17 : decode cX5_lessonsInAll 17 = .ok (.iload_n 2, 1) := by decide +kernel
theorem dX5_lessonsInAll_18 : decode cX5_lessonsInAll 18 = .ok (.iaload, 1) := by decide +kernel
theorem dX5_lessonsInAll_19 : decode cX5_lessonsInAll 19 = .ok (.iadd, 1) := by decide +kernel
theorem dX5_lessonsInAll_20 : decode cX5_lessonsInAll 20 = .ok (.istore_n 1, 1) := by decide +kernel
theorem dX5_lessonsInAll_21 : decode cX5_lessonsInAll 21 = .ok (.iinc 2 1, 3) := by decide +kernel
theorem dX5_lessonsInAll_24 : decode cX5_lessonsInAll 24 = .ok (.goto (-20), 3) := by decide +kernel
theorem dX5_lessonsInAll_27 : decode cX5_lessonsInAll 27 = .ok (.iload_n 1, 1) := by decide +kernel
theorem dX5_lessonsInAll_28 : decode cX5_lessonsInAll 28 = .ok (.ireturn, 1) := by decide +kernel
theorem dX5_firstWrong_0 : decode cX5_firstWrong 0 = .ok (.iconst 1, 1) := by decide +kernel
theorem dX5_firstWrong_1 : decode cX5_firstWrong 1 = .ok (.istore_n 3, 1) := by decide +kernel
theorem dX5_firstWrong_2 : decode cX5_firstWrong 2 = .ok (.iload_n 3, 1) := by decide +kernel
theorem dX5_firstWrong_3 : decode cX5_firstWrong 3 = .ok (.aload_n 0, 1) := by decide +kernel
theorem dX5_firstWrong_4 : decode cX5_firstWrong 4 = .ok (.iload_n 2, 1) := by decide +kernel
theorem dX5_firstWrong_5 : decode cX5_firstWrong 5 = .ok (.invokevirtual 50, 3) := by decide +kernel
theorem dX5_firstWrong_8 : decode cX5_firstWrong 8 = .ok (.if_icmp .ge 30, 3) := by decide +kernel
theorem dX5_firstWrong_11 : decode cX5_firstWrong 11 = .ok (.aload_n 1, 1) := by decide +kernel
theorem dX5_firstWrong_12 : decode cX5_firstWrong 12 = .ok (.aload_n 0, 1) := by decide +kernel
theorem dX5_firstWrong_13 : decode cX5_firstWrong 13 = .ok (.iload_n 2, 1) := by decide +kernel
theorem dX5_firstWrong_14 : decode cX5_firstWrong 14 = .ok (.iload_n 3, 1) := by decide +kernel
theorem dX5_firstWrong_15 : decode cX5_firstWrong 15 = .ok (.iconst 1, 1) := by decide +kernel
theorem dX5_firstWrong_16 : decode cX5_firstWrong 16 = .ok (.isub, 1) := by decide +kernel
theorem dX5_firstWrong_17 : decode cX5_firstWrong 17 = .ok (.invokevirtual 54, 3) := by decide +kernel
theorem dX5_firstWrong_20 : decode cX5_firstWrong 20 = .ok (.invokevirtual 62, 3) := by decide +kernel
theorem dX5_firstWrong_23 : decode cX5_firstWrong 23 = .ok (.aload_n 0, 1) := by decide +kernel
theorem dX5_firstWrong_24 : decode cX5_firstWrong 24 = .ok (.iload_n 2, 1) := by decide +kernel
theorem dX5_firstWrong_25 : decode cX5_firstWrong 25 = .ok (.iload_n 3, 1) := by decide +kernel
theorem dX5_firstWrong_26 : decode cX5_firstWrong 26 = .ok (.invokevirtual 54, 3) := by decide +kernel
theorem dX5_firstWrong_29 : decode cX5_firstWrong 29 = .ok (.if_icmp .ne 9, 3) := by decide +kernel
theorem dX5_firstWrong_32 : decode cX5_firstWrong 32 = .ok (.iinc 3 1, 3) := by decide +kernel
theorem dX5_firstWrong_35 : decode cX5_firstWrong 35 = .ok (.goto (-33), 3) := by decide +kernel
theorem dX5_firstWrong_38 : decode cX5_firstWrong 38 = .ok (.iload_n 3, 1) := by decide +kernel
theorem dX5_firstWrong_39 : decode cX5_firstWrong 39 = .ok (.ireturn, 1) := by decide +kernel
theorem dX5_isKnownBy_0 : decode cX5_isKnownBy 0 = .ok (.aload_n 0, 1) := by decide +kernel
theorem dX5_isKnownBy_1 : decode cX5_isKnownBy 1 = .ok (.aload_n 1, 1) := by decide +kernel
theorem dX5_isKnownBy_2 : decode cX5_isKnownBy 2 = .ok (.iload_n 2, 1) := by decide +kernel
theorem dX5_isKnownBy_3 : decode cX5_isKnownBy 3 = .ok (.invokevirtual 67, 3) := by decide +kernel
theorem dX5_isKnownBy_6 : decode cX5_isKnownBy 6 = .ok (.aload_n 0, 1) := by decide +kernel
theorem dX5_isKnownBy_7 : decode cX5_isKnownBy 7 = .ok (.iload_n 2, 1) := by decide +kernel
theorem dX5_isKnownBy_8 : decode cX5_isKnownBy 8 = .ok (.invokevirtual 50, 3) := by decide +kernel
theorem dX5_isKnownBy_11 : decode cX5_isKnownBy 11 = .ok (.if_icmp .lt 7, 3) := by decide +kernel
theorem dX5_isKnownBy_14 : decode cX5_isKnownBy 14 = .ok (.iconst 1, 1) := by decide +kernel
theorem dX5_isKnownBy_15 : decode cX5_isKnownBy 15 = .ok (.goto 4, 3) := by decide +kernel
theorem dX5_isKnownBy_18 : decode cX5_isKnownBy 18 = .ok (.iconst 0, 1) := by decide +kernel
theorem dX5_isKnownBy_19 : decode cX5_isKnownBy 19 = .ok (.ireturn, 1) := by decide +kernel
theorem dX5_hundredths_0 : decode cX5_hundredths 0 = .ok (.aload_n 0, 1) := by decide +kernel
theorem dX5_hundredths_1 : decode cX5_hundredths 1 = .ok (.iload_n 2, 1) := by decide +kernel
theorem dX5_hundredths_2 : decode cX5_hundredths 2 = .ok (.invokevirtual 50, 3) := by decide +kernel
theorem dX5_hundredths_5 : decode cX5_hundredths 5 = .ok (.iconst 1, 1) := by decide +kernel
theorem dX5_hundredths_6 : decode cX5_hundredths 6 = .ok (.isub, 1) := by decide +kernel
theorem dX5_hundredths_7 : decode cX5_hundredths 7 = .ok (.istore_n 3, 1) := by decide +kernel
theorem dX5_hundredths_8 : decode cX5_hundredths 8 = .ok (.iload_n 3, 1) := by decide +kernel
theorem dX5_hundredths_9 : decode cX5_hundredths 9 = .ok (.iconst 1, 1) := by decide +kernel
theorem dX5_hundredths_10 : decode cX5_hundredths 10 = .ok (.if_icmp .ge 6, 3) := by decide +kernel
theorem dX5_hundredths_13 : decode cX5_hundredths 13 = .ok (.bipush 100, 2) := by decide +kernel
theorem dX5_hundredths_15 : decode cX5_hundredths 15 = .ok (.ireturn, 1) := by decide +kernel
theorem dX5_hundredths_16 : decode cX5_hundredths 16 = .ok (.bipush 100, 2) := by decide +kernel
theorem dX5_hundredths_18 : decode cX5_hundredths 18 = .ok (.aload_n 0, 1) := by decide +kernel
theorem dX5_hundredths_19 : decode cX5_hundredths 19 = .ok (.aload_n 1, 1) := by decide +kernel
theorem dX5_hundredths_20 : decode cX5_hundredths 20 = .ok (.iload_n 2, 1) := by decide +kernel
theorem dX5_hundredths_21 : decode cX5_hundredths 21 = .ok (.invokevirtual 67, 3) := by decide +kernel
theorem dX5_hundredths_24 : decode cX5_hundredths 24 = .ok (.iconst 1, 1) := by decide +kernel
theorem dX5_hundredths_25 : decode cX5_hundredths 25 = .ok (.isub, 1) := by decide +kernel
theorem dX5_hundredths_26 : decode cX5_hundredths 26 = .ok (.imul, 1) := by decide +kernel
theorem dX5_hundredths_27 : decode cX5_hundredths 27 = .ok (.iload_n 3, 1) := by decide +kernel
theorem dX5_hundredths_28 : decode cX5_hundredths 28 = .ok (.idiv, 1) := by decide +kernel
theorem dX5_hundredths_29 : decode cX5_hundredths 29 = .ok (.ireturn, 1) := by decide +kernel
theorem dX5_hundredthsInAll_0 : decode cX5_hundredthsInAll 0 = .ok (.iconst 0, 1) := by decide +kernel
theorem dX5_hundredthsInAll_1 : decode cX5_hundredthsInAll 1 = .ok (.istore_n 2, 1) := by decide +kernel
theorem dX5_hundredthsInAll_2 : decode cX5_hundredthsInAll 2 = .ok (.iconst 0, 1) := by decide +kernel
theorem dX5_hundredthsInAll_3 : decode cX5_hundredthsInAll 3 = .ok (.istore_n 3, 1) := by decide +kernel
theorem dX5_hundredthsInAll_4 : decode cX5_hundredthsInAll 4 = .ok (.iload_n 3, 1) := by decide +kernel
theorem dX5_hundredthsInAll_5 : decode cX5_hundredthsInAll 5 = .ok (.aload_n 0, 1) := by decide +kernel
theorem dX5_hundredthsInAll_6 : decode cX5_hundredthsInAll 6 = .ok (.getfield 23, 3) := by decide +kernel
theorem dX5_hundredthsInAll_9 : decode cX5_hundredthsInAll 9 = .ok (.if_icmp .ge 18, 3) := by decide +kernel
theorem dX5_hundredthsInAll_12 : decode cX5_hundredthsInAll 12 = .ok (.iload_n 2, 1) := by decide +kernel
theorem dX5_hundredthsInAll_13 : decode cX5_hundredthsInAll 13 = .ok (.aload_n 0, 1) := by decide +kernel
theorem dX5_hundredthsInAll_14 : decode cX5_hundredthsInAll 14 = .ok (.aload_n 1, 1) := by decide +kernel
theorem dX5_hundredthsInAll_15 : decode cX5_hundredthsInAll 15 = .ok (.iload_n 3, 1) := by decide +kernel
theorem dX5_hundredthsInAll_16 : decode cX5_hundredthsInAll 16 = .ok (.invokevirtual 71, 3) := by decide +kernel
theorem dX5_hundredthsInAll_19 : decode cX5_hundredthsInAll 19 = .ok (.iadd, 1) := by decide +kernel
theorem dX5_hundredthsInAll_20 : decode cX5_hundredthsInAll 20 = .ok (.istore_n 2, 1) := by decide +kernel
theorem dX5_hundredthsInAll_21 : decode cX5_hundredthsInAll 21 = .ok (.iinc 3 1, 3) := by decide +kernel
theorem dX5_hundredthsInAll_24 : decode cX5_hundredthsInAll 24 = .ok (.goto (-20), 3) := by decide +kernel
theorem dX5_hundredthsInAll_27 : decode cX5_hundredthsInAll 27 = .ok (.iload_n 2, 1) := by decide +kernel
theorem dX5_hundredthsInAll_28 : decode cX5_hundredthsInAll 28 = .ok (.ireturn, 1) := by decide +kernel
theorem dX5_knownBy_0 : decode cX5_knownBy 0 = .ok (.iconst 0, 1) := by decide +kernel
theorem dX5_knownBy_1 : decode cX5_knownBy 1 = .ok (.istore_n 2, 1) := by decide +kernel
theorem dX5_knownBy_2 : decode cX5_knownBy 2 = .ok (.iconst 0, 1) := by decide +kernel
theorem dX5_knownBy_3 : decode cX5_knownBy 3 = .ok (.istore_n 3, 1) := by decide +kernel
theorem dX5_knownBy_4 : decode cX5_knownBy 4 = .ok (.iload_n 3, 1) := by decide +kernel
theorem dX5_knownBy_5 : decode cX5_knownBy 5 = .ok (.aload_n 0, 1) := by decide +kernel
theorem dX5_knownBy_6 : decode cX5_knownBy 6 = .ok (.getfield 23, 3) := by decide +kernel
theorem dX5_knownBy_9 : decode cX5_knownBy 9 = .ok (.if_icmp .ge 24, 3) := by decide +kernel
theorem dX5_knownBy_12 : decode cX5_knownBy 12 = .ok (.aload_n 0, 1) := by decide +kernel
theorem dX5_knownBy_13 : decode cX5_knownBy 13 = .ok (.aload_n 1, 1) := by decide +kernel
theorem dX5_knownBy_14 : decode cX5_knownBy 14 = .ok (.iload_n 3, 1) := by decide +kernel
theorem dX5_knownBy_15 : decode cX5_knownBy 15 = .ok (.invokevirtual 74, 3) := by decide +kernel
theorem dX5_knownBy_18 : decode cX5_knownBy 18 = .ok (.ifCond .eq 9, 3) := by decide +kernel
theorem dX5_knownBy_21 : decode cX5_knownBy 21 = .ok (.iload_n 2, 1) := by decide +kernel
theorem dX5_knownBy_22 : decode cX5_knownBy 22 = .ok (.iconst 1, 1) := by decide +kernel
theorem dX5_knownBy_23 : decode cX5_knownBy 23 = .ok (.iload_n 3, 1) := by decide +kernel
theorem dX5_knownBy_24 : decode cX5_knownBy 24 = .ok (.ishl, 1) := by decide +kernel
theorem dX5_knownBy_25 : decode cX5_knownBy 25 = .ok (.ior, 1) := by decide +kernel
theorem dX5_knownBy_26 : decode cX5_knownBy 26 = .ok (.istore_n 2, 1) := by decide +kernel
theorem dX5_knownBy_27 : decode cX5_knownBy 27 = .ok (.iinc 3 1, 3) := by decide +kernel
theorem dX5_knownBy_30 : decode cX5_knownBy 30 = .ok (.goto (-26), 3) := by decide +kernel
theorem dX5_knownBy_33 : decode cX5_knownBy 33 = .ok (.iload_n 2, 1) := by decide +kernel
theorem dX5_knownBy_34 : decode cX5_knownBy 34 = .ok (.ireturn, 1) := by decide +kernel
theorem dX5_songsFrom_0 : decode cX5_songsFrom 0 = .ok (.iconst 0, 1) := by decide +kernel
theorem dX5_songsFrom_1 : decode cX5_songsFrom 1 = .ok (.istore_n 2, 1) := by decide +kernel
theorem dX5_songsFrom_2 : decode cX5_songsFrom 2 = .ok (.iconst 0, 1) := by decide +kernel
theorem dX5_songsFrom_3 : decode cX5_songsFrom 3 = .ok (.istore_n 3, 1) := by decide +kernel
theorem dX5_songsFrom_4 : decode cX5_songsFrom 4 = .ok (.iload_n 3, 1) := by decide +kernel
theorem dX5_songsFrom_5 : decode cX5_songsFrom 5 = .ok (.aload_n 0, 1) := by decide +kernel
theorem dX5_songsFrom_6 : decode cX5_songsFrom 6 = .ok (.getfield 23, 3) := by decide +kernel
theorem dX5_songsFrom_9 : decode cX5_songsFrom 9 = .ok (.if_icmp .ge 25, 3) := by decide +kernel
theorem dX5_songsFrom_12 : decode cX5_songsFrom 12 = .ok (.aload_n 0, 1) := by decide +kernel
theorem dX5_songsFrom_13 : decode cX5_songsFrom 13 = .ok (.iload_n 3, 1) := by decide +kernel
theorem dX5_songsFrom_14 : decode cX5_songsFrom 14 = .ok (.iconst 0, 1) := by decide +kernel
theorem dX5_songsFrom_15 : decode cX5_songsFrom 15 = .ok (.invokevirtual 54, 3) := by decide +kernel
theorem dX5_songsFrom_18 : decode cX5_songsFrom 18 = .ok (.iload_n 1, 1) := by decide +kernel
theorem dX5_songsFrom_19 : decode cX5_songsFrom 19 = .ok (.if_icmp .ne 9, 3) := by decide +kernel
theorem dX5_songsFrom_22 : decode cX5_songsFrom 22 = .ok (.iload_n 2, 1) := by decide +kernel
theorem dX5_songsFrom_23 : decode cX5_songsFrom 23 = .ok (.iconst 1, 1) := by decide +kernel
theorem dX5_songsFrom_24 : decode cX5_songsFrom 24 = .ok (.iload_n 3, 1) := by decide +kernel
theorem dX5_songsFrom_25 : decode cX5_songsFrom 25 = .ok (.ishl, 1) := by decide +kernel
theorem dX5_songsFrom_26 : decode cX5_songsFrom 26 = .ok (.ior, 1) := by decide +kernel
theorem dX5_songsFrom_27 : decode cX5_songsFrom 27 = .ok (.istore_n 2, 1) := by decide +kernel
theorem dX5_songsFrom_28 : decode cX5_songsFrom 28 = .ok (.iinc 3 1, 3) := by decide +kernel
theorem dX5_songsFrom_31 : decode cX5_songsFrom 31 = .ok (.goto (-27), 3) := by decide +kernel
theorem dX5_songsFrom_34 : decode cX5_songsFrom 34 = .ok (.iload_n 2, 1) := by decide +kernel
theorem dX5_songsFrom_35 : decode cX5_songsFrom 35 = .ok (.ireturn, 1) := by decide +kernel
theorem dX5_songsWithPair_0 : decode cX5_songsWithPair 0 = .ok (.iconst 0, 1) := by decide +kernel
theorem dX5_songsWithPair_1 : decode cX5_songsWithPair 1 = .ok (.istore_n 3, 1) := by decide +kernel
theorem dX5_songsWithPair_2 : decode cX5_songsWithPair 2 = .ok (.iconst 0, 1) := by decide +kernel
theorem dX5_songsWithPair_3 : decode cX5_songsWithPair 3 = .ok (.istore 4, 2) := by decide +kernel
theorem dX5_songsWithPair_5 : decode cX5_songsWithPair 5 = .ok (.iload 4, 2) := by decide +kernel
theorem dX5_songsWithPair_7 : decode cX5_songsWithPair 7 = .ok (.aload_n 0, 1) := by decide +kernel
theorem dX5_songsWithPair_8 : decode cX5_songsWithPair 8 = .ok (.getfield 23, 3) := by decide +kernel
theorem dX5_songsWithPair_11 : decode cX5_songsWithPair 11 = .ok (.if_icmp .ge 27, 3) := by decide +kernel
theorem dX5_songsWithPair_14 : decode cX5_songsWithPair 14 = .ok (.aload_n 0, 1) := by decide +kernel
theorem dX5_songsWithPair_15 : decode cX5_songsWithPair 15 = .ok (.iload 4, 2) := by decide +kernel
theorem dX5_songsWithPair_17 : decode cX5_songsWithPair 17 = .ok (.iload_n 1, 1) := by decide +kernel
theorem dX5_songsWithPair_18 : decode cX5_songsWithPair 18 = .ok (.iload_n 2, 1) := by decide +kernel
theorem dX5_songsWithPair_19 : decode cX5_songsWithPair 19 = .ok (.invokevirtual 78, 3) := by decide +kernel
theorem dX5_songsWithPair_22 : decode cX5_songsWithPair 22 = .ok (.ifCond .eq 10, 3) := by decide +kernel
theorem dX5_songsWithPair_25 : decode cX5_songsWithPair 25 = .ok (.iload_n 3, 1) := by decide +kernel
theorem dX5_songsWithPair_26 : decode cX5_songsWithPair 26 = .ok (.iconst 1, 1) := by decide +kernel
theorem dX5_songsWithPair_27 : decode cX5_songsWithPair 27 = .ok (.iload 4, 2) := by decide +kernel
theorem dX5_songsWithPair_29 : decode cX5_songsWithPair 29 = .ok (.ishl, 1) := by decide +kernel
theorem dX5_songsWithPair_30 : decode cX5_songsWithPair 30 = .ok (.ior, 1) := by decide +kernel
theorem dX5_songsWithPair_31 : decode cX5_songsWithPair 31 = .ok (.istore_n 3, 1) := by decide +kernel
theorem dX5_songsWithPair_32 : decode cX5_songsWithPair 32 = .ok (.iinc 4 1, 3) := by decide +kernel
theorem dX5_songsWithPair_35 : decode cX5_songsWithPair 35 = .ok (.goto (-30), 3) := by decide +kernel
theorem dX5_songsWithPair_38 : decode cX5_songsWithPair 38 = .ok (.iload_n 3, 1) := by decide +kernel
theorem dX5_songsWithPair_39 : decode cX5_songsWithPair 39 = .ok (.ireturn, 1) := by decide +kernel
theorem dX5_hasPair_0 : decode cX5_hasPair 0 = .ok (.iconst 1, 1) := by decide +kernel
theorem dX5_hasPair_1 : decode cX5_hasPair 1 = .ok (.istore 4, 2) := by decide +kernel
theorem dX5_hasPair_3 : decode cX5_hasPair 3 = .ok (.iload 4, 2) := by decide +kernel
theorem dX5_hasPair_5 : decode cX5_hasPair 5 = .ok (.aload_n 0, 1) := by decide +kernel
theorem dX5_hasPair_6 : decode cX5_hasPair 6 = .ok (.iload_n 1, 1) := by decide +kernel
theorem dX5_hasPair_7 : decode cX5_hasPair 7 = .ok (.invokevirtual 50, 3) := by decide +kernel
theorem dX5_hasPair_10 : decode cX5_hasPair 10 = .ok (.if_icmp .ge 35, 3) := by decide +kernel
theorem dX5_hasPair_13 : decode cX5_hasPair 13 = .ok (.aload_n 0, 1) := by decide +kernel
theorem dX5_hasPair_14 : decode cX5_hasPair 14 = .ok (.iload_n 1, 1) := by decide +kernel
theorem dX5_hasPair_15 : decode cX5_hasPair 15 = .ok (.iload 4, 2) := by decide +kernel
theorem dX5_hasPair_17 : decode cX5_hasPair 17 = .ok (.iconst 1, 1) := by decide +kernel
theorem dX5_hasPair_18 : decode cX5_hasPair 18 = .ok (.isub, 1) := by decide +kernel
theorem dX5_hasPair_19 : decode cX5_hasPair 19 = .ok (.invokevirtual 54, 3) := by decide +kernel
theorem dX5_hasPair_22 : decode cX5_hasPair 22 = .ok (.iload_n 2, 1) := by decide +kernel
theorem dX5_hasPair_23 : decode cX5_hasPair 23 = .ok (.if_icmp .ne 16, 3) := by decide +kernel
theorem dX5_hasPair_26 : decode cX5_hasPair 26 = .ok (.aload_n 0, 1) := by decide +kernel
theorem dX5_hasPair_27 : decode cX5_hasPair 27 = .ok (.iload_n 1, 1) := by decide +kernel
theorem dX5_hasPair_28 : decode cX5_hasPair 28 = .ok (.iload 4, 2) := by decide +kernel
theorem dX5_hasPair_30 : decode cX5_hasPair 30 = .ok (.invokevirtual 54, 3) := by decide +kernel
theorem dX5_hasPair_33 : decode cX5_hasPair 33 = .ok (.iload_n 3, 1) := by decide +kernel
theorem dX5_hasPair_34 : decode cX5_hasPair 34 = .ok (.if_icmp .ne 5, 3) := by decide +kernel
theorem dX5_hasPair_37 : decode cX5_hasPair 37 = .ok (.iconst 1, 1) := by decide +kernel
theorem dX5_hasPair_38 : decode cX5_hasPair 38 = .ok (.ireturn, 1) := by decide +kernel
theorem dX5_hasPair_39 : decode cX5_hasPair 39 = .ok (.iinc 4 1, 3) := by decide +kernel
theorem dX5_hasPair_42 : decode cX5_hasPair 42 = .ok (.goto (-39), 3) := by decide +kernel
theorem dX5_hasPair_45 : decode cX5_hasPair 45 = .ok (.iconst 0, 1) := by decide +kernel
theorem dX5_hasPair_46 : decode cX5_hasPair 46 = .ok (.ireturn, 1) := by decide +kernel
theorem dX5_sameAtEnd_0 : decode cX5_sameAtEnd 0 = .ok (.aload_n 0, 1) := by decide +kernel
theorem dX5_sameAtEnd_1 : decode cX5_sameAtEnd 1 = .ok (.iload_n 1, 1) := by decide +kernel
theorem dX5_sameAtEnd_2 : decode cX5_sameAtEnd 2 = .ok (.invokevirtual 50, 3) := by decide +kernel
theorem dX5_sameAtEnd_5 : decode cX5_sameAtEnd 5 = .ok (.aload_n 0, 1) := by decide +kernel
theorem dX5_sameAtEnd_6 : decode cX5_sameAtEnd 6 = .ok (.iload_n 2, 1) := by decide +kernel
theorem dX5_sameAtEnd_7 : decode cX5_sameAtEnd 7 = .ok (.invokevirtual 50, 3) := by decide +kernel
theorem dX5_sameAtEnd_10 : decode cX5_sameAtEnd 10 = .ok (.invokestatic 33, 3) := by decide +kernel
theorem dX5_sameAtEnd_13 : decode cX5_sameAtEnd 13 = .ok (.istore_n 3, 1) := by decide +kernel
theorem dX5_sameAtEnd_14 : decode cX5_sameAtEnd 14 = .ok (.iconst 0, 1) := by decide +kernel
theorem dX5_sameAtEnd_15 : decode cX5_sameAtEnd 15 = .ok (.istore 4, 2) := by decide +kernel
theorem dX5_sameAtEnd_17 : decode cX5_sameAtEnd 17 = .ok (.iload 4, 2) := by decide +kernel
theorem dX5_sameAtEnd_19 : decode cX5_sameAtEnd 19 = .ok (.iload_n 3, 1) := by decide +kernel
theorem dX5_sameAtEnd_20 : decode cX5_sameAtEnd 20 = .ok (.if_icmp .ge 42, 3) := by decide +kernel
theorem dX5_sameAtEnd_23 : decode cX5_sameAtEnd 23 = .ok (.aload_n 0, 1) := by decide +kernel
theorem dX5_sameAtEnd_24 : decode cX5_sameAtEnd 24 = .ok (.iload_n 1, 1) := by decide +kernel
theorem dX5_sameAtEnd_25 : decode cX5_sameAtEnd 25 = .ok (.aload_n 0, 1) := by decide +kernel
theorem dX5_sameAtEnd_26 : decode cX5_sameAtEnd 26 = .ok (.iload_n 1, 1) := by decide +kernel
theorem dX5_sameAtEnd_27 : decode cX5_sameAtEnd 27 = .ok (.invokevirtual 50, 3) := by decide +kernel
theorem dX5_sameAtEnd_30 : decode cX5_sameAtEnd 30 = .ok (.iconst 1, 1) := by decide +kernel
theorem dX5_sameAtEnd_31 : decode cX5_sameAtEnd 31 = .ok (.isub, 1) := by decide +kernel
theorem dX5_sameAtEnd_32 : decode cX5_sameAtEnd 32 = .ok (.iload 4, 2) := by decide +kernel
theorem dX5_sameAtEnd_34 : decode cX5_sameAtEnd 34 = .ok (.isub, 1) := by decide +kernel
theorem dX5_sameAtEnd_35 : decode cX5_sameAtEnd 35 = .ok (.invokevirtual 54, 3) := by decide +kernel
theorem dX5_sameAtEnd_38 : decode cX5_sameAtEnd 38 = .ok (.aload_n 0, 1) := by decide +kernel
theorem dX5_sameAtEnd_39 : decode cX5_sameAtEnd 39 = .ok (.iload_n 2, 1) := by decide +kernel
theorem dX5_sameAtEnd_40 : decode cX5_sameAtEnd 40 = .ok (.aload_n 0, 1) := by decide +kernel
theorem dX5_sameAtEnd_41 : decode cX5_sameAtEnd 41 = .ok (.iload_n 2, 1) := by decide +kernel
theorem dX5_sameAtEnd_42 : decode cX5_sameAtEnd 42 = .ok (.invokevirtual 50, 3) := by decide +kernel
theorem dX5_sameAtEnd_45 : decode cX5_sameAtEnd 45 = .ok (.iconst 1, 1) := by decide +kernel
theorem dX5_sameAtEnd_46 : decode cX5_sameAtEnd 46 = .ok (.isub, 1) := by decide +kernel
theorem dX5_sameAtEnd_47 : decode cX5_sameAtEnd 47 = .ok (.iload 4, 2) := by decide +kernel
theorem dX5_sameAtEnd_49 : decode cX5_sameAtEnd 49 = .ok (.isub, 1) := by decide +kernel
theorem dX5_sameAtEnd_50 : decode cX5_sameAtEnd 50 = .ok (.invokevirtual 54, 3) := by decide +kernel
theorem dX5_sameAtEnd_53 : decode cX5_sameAtEnd 53 = .ok (.if_icmp .ne 9, 3) := by decide +kernel
theorem dX5_sameAtEnd_56 : decode cX5_sameAtEnd 56 = .ok (.iinc 4 1, 3) := by decide +kernel
theorem dX5_sameAtEnd_59 : decode cX5_sameAtEnd 59 = .ok (.goto (-42), 3) := by decide +kernel
theorem dX5_sameAtEnd_62 : decode cX5_sameAtEnd 62 = .ok (.iload 4, 2) := by decide +kernel
theorem dX5_sameAtEnd_64 : decode cX5_sameAtEnd 64 = .ok (.ireturn, 1) := by decide +kernel
theorem dX6_init_0 : decode cX6_init 0 = .ok (.aload_n 0, 1) := by decide +kernel
theorem dX6_init_1 : decode cX6_init 1 = .ok (.invokespecial 1, 3) := by decide +kernel
theorem dX6_init_4 : decode cX6_init 4 = .ok (.aload_n 0, 1) := by decide +kernel
theorem dX6_init_5 : decode cX6_init 5 = .ok (.new 7, 3) := by decide +kernel
theorem dX6_init_8 : decode cX6_init 8 = .ok (.dup, 1) := by decide +kernel
theorem dX6_init_9 : decode cX6_init 9 = .ok (.invokespecial 9, 3) := by decide +kernel
theorem dX6_init_12 : decode cX6_init 12 = .ok (.putfield 10, 3) := by decide +kernel
theorem dX6_init_15 : decode cX6_init 15 = .ok (.aload_n 0, 1) := by decide +kernel
theorem dX6_init_16 : decode cX6_init 16 = .ok (.new 16, 3) := by decide +kernel
theorem dX6_init_19 : decode cX6_init 19 = .ok (.dup, 1) := by decide +kernel
theorem dX6_init_20 : decode cX6_init 20 = .ok (.invokespecial 18, 3) := by decide +kernel
theorem dX6_init_23 : decode cX6_init 23 = .ok (.putfield 19, 3) := by decide +kernel
theorem dX6_init_26 : decode cX6_init 26 = .ok (.aload_n 0, 1) := by decide +kernel
theorem dX6_init_27 : decode cX6_init 27 = .ok (.new 23, 3) := by decide +kernel
theorem dX6_init_30 : decode cX6_init 30 = .ok (.dup, 1) := by decide +kernel
theorem dX6_init_31 : decode cX6_init 31 = .ok (.invokespecial 25, 3) := by decide +kernel
theorem dX6_init_34 : decode cX6_init 34 = .ok (.putfield 26, 3) := by decide +kernel
theorem dX6_init_37 : decode cX6_init 37 = .ok (.aload_n 0, 1) := by decide +kernel
theorem dX6_init_38 : decode cX6_init 38 = .ok (.iconst 2, 1) := by decide +kernel
theorem dX6_init_39 : decode cX6_init 39 = .ok (.anewarray 7, 3) := by decide +kernel
theorem dX6_init_42 : decode cX6_init 42 = .ok (.putfield 30, 3) := by decide +kernel
theorem dX6_init_45 : decode cX6_init 45 = .ok (.aload_n 0, 1) := by decide +kernel
theorem dX6_init_46 : decode cX6_init 46 = .ok (.iconst 2, 1) := by decide +kernel
theorem dX6_init_47 : decode cX6_init 47 = .ok (.newarray .boolean, 2) := by decide +kernel
theorem dX6_init_49 : decode cX6_init 49 = .ok (.putfield 34, 3) := by decide +kernel
theorem dX6_init_52 : decode cX6_init 52 = .ok (.aload_n 0, 1) := by decide +kernel
theorem dX6_init_53 : decode cX6_init 53 = .ok (.new 38, 3) := by decide +kernel
theorem dX6_init_56 : decode cX6_init 56 = .ok (.dup, 1) := by decide +kernel
theorem dX6_init_57 : decode cX6_init 57 = .ok (.invokespecial 40, 3) := by decide +kernel
theorem dX6_init_60 : decode cX6_init 60 = .ok (.putfield 41, 3) := by decide +kernel
theorem dX6_init_63 : decode cX6_init 63 = .ok (.iconst 0, 1) := by decide +kernel
theorem dX6_init_64 : decode cX6_init 64 = .ok (.istore_n 1, 1) := by decide +kernel
theorem dX6_init_65 : decode cX6_init 65 = .ok (.iload_n 1, 1) := by decide +kernel
theorem dX6_init_66 : decode cX6_init 66 = .ok (.iconst 2, 1) := by decide +kernel
theorem dX6_init_67 : decode cX6_init 67 = .ok (.if_icmp .ge 22, 3) := by decide +kernel
theorem dX6_init_70 : decode cX6_init 70 = .ok (.aload_n 0, 1) := by decide +kernel
theorem dX6_init_71 : decode cX6_init 71 = .ok (.getfield 30, 3) := by decide +kernel
theorem dX6_init_74 : decode cX6_init 74 = .ok (.iload_n 1, 1) := by decide +kernel
theorem dX6_init_75 : decode cX6_init 75 = .ok (.new 7, 3) := by decide +kernel
theorem dX6_init_78 : decode cX6_init 78 = .ok (.dup, 1) := by decide +kernel
theorem dX6_init_79 : decode cX6_init 79 = .ok (.invokespecial 9, 3) := by decide +kernel
theorem dX6_init_82 : decode cX6_init 82 = .ok (.aastore, 1) := by decide +kernel
theorem dX6_init_83 : decode cX6_init 83 = .ok (.iinc 1 1, 3) := by decide +kernel
theorem dX6_init_86 : decode cX6_init 86 = .ok (.goto (-21), 3) := by decide +kernel
theorem dX6_init_89 : decode cX6_init 89 = .ok (.return_, 1) := by decide +kernel
theorem dX6_set_0 : decode cX6_set 0 = .ok (.aload_n 0, 1) := by decide +kernel
theorem dX6_set_1 : decode cX6_set 1 = .ok (.getfield 19, 3) := by decide +kernel
theorem dX6_set_4 : decode cX6_set 4 = .ok (.aload_n 0, 1) := by decide +kernel
theorem dX6_set_5 : decode cX6_set 5 = .ok (.getfield 10, 3) := by decide +kernel
theorem dX6_set_8 : decode cX6_set 8 = .ok (.invokevirtual 45, 3) := by decide +kernel
theorem dX6_set_11 : decode cX6_set 11 = .ok (.aload_n 0, 1) := by decide +kernel
theorem dX6_set_12 : decode cX6_set 12 = .ok (.getfield 19, 3) := by decide +kernel
theorem dX6_set_15 : decode cX6_set 15 = .ok (.aload_n 0, 1) := by decide +kernel
theorem dX6_set_16 : decode cX6_set 16 = .ok (.getfield 10, 3) := by decide +kernel
theorem dX6_set_19 : decode cX6_set 19 = .ok (.iload_n 1, 1) := by decide +kernel
theorem dX6_set_20 : decode cX6_set 20 = .ok (.iload_n 2, 1) := by decide +kernel
theorem dX6_set_21 : decode cX6_set 21 = .ok (.invokevirtual 49, 3) := by decide +kernel
theorem dX6_set_24 : decode cX6_set 24 = .ok (.invokevirtual 53, 3) := by decide +kernel
theorem dX6_set_27 : decode cX6_set 27 = .ok (.ireturn, 1) := by decide +kernel
theorem dX6_parrot_0 : decode cX6_parrot 0 = .ok (.aload_n 0, 1) := by decide +kernel
theorem dX6_parrot_1 : decode cX6_parrot 1 = .ok (.getfield 19, 3) := by decide +kernel
theorem dX6_parrot_4 : decode cX6_parrot 4 = .ok (.aload_n 0, 1) := by decide +kernel
theorem dX6_parrot_5 : decode cX6_parrot 5 = .ok (.getfield 10, 3) := by decide +kernel
theorem dX6_parrot_8 : decode cX6_parrot 8 = .ok (.invokevirtual 45, 3) := by decide +kernel
theorem dX6_parrot_11 : decode cX6_parrot 11 = .ok (.aload_n 0, 1) := by decide +kernel
theorem dX6_parrot_12 : decode cX6_parrot 12 = .ok (.getfield 19, 3) := by decide +kernel
theorem dX6_parrot_15 : decode cX6_parrot 15 = .ok (.aload_n 0, 1) := by decide +kernel
theorem dX6_parrot_16 : decode cX6_parrot 16 = .ok (.getfield 10, 3) := by decide +kernel
theorem dX6_parrot_19 : decode cX6_parrot 19 = .ok (.invokevirtual 57, 3) := by decide +kernel
theorem dX6_parrot_22 : decode cX6_parrot 22 = .ok (.invokevirtual 53, 3) := by decide +kernel
theorem dX6_parrot_25 : decode cX6_parrot 25 = .ok (.ireturn, 1) := by decide +kernel
theorem dX6_lesson_0 : decode cX6_lesson 0 = .ok (.aload_n 0, 1) := by decide +kernel
theorem dX6_lesson_1 : decode cX6_lesson 1 = .ok (.getfield 19, 3) := by decide +kernel
theorem dX6_lesson_4 : decode cX6_lesson 4 = .ok (.aload_n 0, 1) := by decide +kernel
theorem dX6_lesson_5 : decode cX6_lesson 5 = .ok (.getfield 10, 3) := by decide +kernel
theorem dX6_lesson_8 : decode cX6_lesson 8 = .ok (.invokevirtual 45, 3) := by decide +kernel
theorem dX6_lesson_11 : decode cX6_lesson 11 = .ok (.aload_n 0, 1) := by decide +kernel
theorem dX6_lesson_12 : decode cX6_lesson 12 = .ok (.getfield 19, 3) := by decide +kernel
theorem dX6_lesson_15 : decode cX6_lesson 15 = .ok (.aload_n 0, 1) := by decide +kernel
theorem dX6_lesson_16 : decode cX6_lesson 16 = .ok (.getfield 10, 3) := by decide +kernel
theorem dX6_lesson_19 : decode cX6_lesson 19 = .ok (.iload_n 1, 1) := by decide +kernel
theorem dX6_lesson_20 : decode cX6_lesson 20 = .ok (.iload_n 2, 1) := by decide +kernel
theorem dX6_lesson_21 : decode cX6_lesson 21 = .ok (.iload_n 3, 1) := by decide +kernel
theorem dX6_lesson_22 : decode cX6_lesson 22 = .ok (.invokevirtual 61, 3) := by decide +kernel
theorem dX6_lesson_25 : decode cX6_lesson 25 = .ok (.invokevirtual 53, 3) := by decide +kernel
theorem dX6_lesson_28 : decode cX6_lesson 28 = .ok (.ireturn, 1) := by decide +kernel
theorem dX6_hush_0 : decode cX6_hush 0 = .ok (.aload_n 0, 1) := by decide +kernel
theorem dX6_hush_1 : decode cX6_hush 1 = .ok (.getfield 19, 3) := by decide +kernel
theorem dX6_hush_4 : decode cX6_hush 4 = .ok (.aload_n 0, 1) := by decide +kernel
theorem dX6_hush_5 : decode cX6_hush 5 = .ok (.getfield 10, 3) := by decide +kernel
theorem dX6_hush_8 : decode cX6_hush 8 = .ok (.invokevirtual 45, 3) := by decide +kernel
theorem dX6_hush_11 : decode cX6_hush 11 = .ok (.aload_n 0, 1) := by decide +kernel
theorem dX6_hush_12 : decode cX6_hush 12 = .ok (.getfield 19, 3) := by decide +kernel
theorem dX6_hush_15 : decode cX6_hush 15 = .ok (.aload_n 0, 1) := by decide +kernel
theorem dX6_hush_16 : decode cX6_hush 16 = .ok (.getfield 10, 3) := by decide +kernel
theorem dX6_hush_19 : decode cX6_hush 19 = .ok (.iload_n 1, 1) := by decide +kernel
theorem dX6_hush_20 : decode cX6_hush 20 = .ok (.invokevirtual 65, 3) := by decide +kernel
theorem dX6_hush_23 : decode cX6_hush 23 = .ok (.invokevirtual 53, 3) := by decide +kernel
theorem dX6_hush_26 : decode cX6_hush 26 = .ok (.ireturn, 1) := by decide +kernel
theorem dX6_practise_0 : decode cX6_practise 0 = .ok (.aload_n 0, 1) := by decide +kernel
theorem dX6_practise_1 : decode cX6_practise 1 = .ok (.getfield 19, 3) := by decide +kernel
theorem dX6_practise_4 : decode cX6_practise 4 = .ok (.aload_n 0, 1) := by decide +kernel
theorem dX6_practise_5 : decode cX6_practise 5 = .ok (.getfield 10, 3) := by decide +kernel
theorem dX6_practise_8 : decode cX6_practise 8 = .ok (.invokevirtual 45, 3) := by decide +kernel
theorem dX6_practise_11 : decode cX6_practise 11 = .ok (.aload_n 0, 1) := by decide +kernel
theorem dX6_practise_12 : decode cX6_practise 12 = .ok (.getfield 19, 3) := by decide +kernel
theorem dX6_practise_15 : decode cX6_practise 15 = .ok (.aload_n 0, 1) := by decide +kernel
theorem dX6_practise_16 : decode cX6_practise 16 = .ok (.getfield 10, 3) := by decide +kernel
theorem dX6_practise_19 : decode cX6_practise 19 = .ok (.iload_n 1, 1) := by decide +kernel
theorem dX6_practise_20 : decode cX6_practise 20 = .ok (.iload_n 2, 1) := by decide +kernel
theorem dX6_practise_21 : decode cX6_practise 21 = .ok (.invokevirtual 68, 3) := by decide +kernel
theorem dX6_practise_24 : decode cX6_practise 24 = .ok (.invokevirtual 53, 3) := by decide +kernel
theorem dX6_practise_27 : decode cX6_practise 27 = .ok (.ireturn, 1) := by decide +kernel
theorem dX6_night_0 : decode cX6_night 0 = .ok (.aload_n 0, 1) := by decide +kernel
theorem dX6_night_1 : decode cX6_night 1 = .ok (.getfield 19, 3) := by decide +kernel
theorem dX6_night_4 : decode cX6_night 4 = .ok (.aload_n 0, 1) := by decide +kernel
theorem dX6_night_5 : decode cX6_night 5 = .ok (.getfield 10, 3) := by decide +kernel
theorem dX6_night_8 : decode cX6_night 8 = .ok (.invokevirtual 45, 3) := by decide +kernel
theorem dX6_night_11 : decode cX6_night 11 = .ok (.aload_n 0, 1) := by decide +kernel
theorem dX6_night_12 : decode cX6_night 12 = .ok (.getfield 19, 3) := by decide +kernel
theorem dX6_night_15 : decode cX6_night 15 = .ok (.aload_n 0, 1) := by decide +kernel
theorem dX6_night_16 : decode cX6_night 16 = .ok (.getfield 10, 3) := by decide +kernel
theorem dX6_night_19 : decode cX6_night 19 = .ok (.invokevirtual 71, 3) := by decide +kernel
theorem dX6_night_22 : decode cX6_night 22 = .ok (.invokevirtual 53, 3) := by decide +kernel
theorem dX6_night_25 : decode cX6_night 25 = .ok (.ireturn, 1) := by decide +kernel
theorem dX6_ofSong_0 : decode cX6_ofSong 0 = .ok (.aload_n 0, 1) := by decide +kernel
theorem dX6_ofSong_1 : decode cX6_ofSong 1 = .ok (.getfield 10, 3) := by decide +kernel
theorem dX6_ofSong_4 : decode cX6_ofSong 4 = .ok (.getfield 74, 3) := by decide +kernel
theorem dX6_ofSong_7 : decode cX6_ofSong 7 = .ok (.astore_n 3, 1) := by decide +kernel
theorem dX6_ofSong_8 : decode cX6_ofSong 8 = .ok (.aload_n 3, 1) := by decide +kernel
theorem dX6_ofSong_9 : decode cX6_ofSong 9 = .ok (.iload_n 1, 1) := by decide +kernel
theorem dX6_ofSong_10 : decode cX6_ofSong 10 = .ok (.invokevirtual 78, 3) := by decide +kernel
theorem dX6_ofSong_13 : decode cX6_ofSong 13 = .ok (.ifCond .ne 5, 3) := by decide +kernel
theorem dX6_ofSong_16 : decode cX6_ofSong 16 = .ok (.iconst (-1), 1) := by decide +kernel
theorem dX6_ofSong_17 : decode cX6_ofSong 17 = .ok (.ireturn, 1) := by decide +kernel
theorem dX6_ofSong_18 : decode cX6_ofSong 18 = .ok (.iload_n 2, 1) := by decide +kernel
theorem dX6_ofSong_19 : decode cX6_ofSong 19 = .ok (.tableswitch 77 0 5 #[37, 43, 49, 56, 62, 68], 37) := by decide +kernel
theorem dX6_ofSong_56 : decode cX6_ofSong 56 = .ok (.aload_n 3, 1) := by decide +kernel
theorem dX6_ofSong_57 : decode cX6_ofSong 57 = .ok (.iload_n 1, 1) := by decide +kernel
theorem dX6_ofSong_58 : decode cX6_ofSong 58 = .ok (.invokevirtual 84, 3) := by decide +kernel
theorem dX6_ofSong_61 : decode cX6_ofSong 61 = .ok (.ireturn, 1) := by decide +kernel
theorem dX6_ofSong_62 : decode cX6_ofSong 62 = .ok (.aload_n 3, 1) := by decide +kernel
theorem dX6_ofSong_63 : decode cX6_ofSong 63 = .ok (.iload_n 1, 1) := by decide +kernel
theorem dX6_ofSong_64 : decode cX6_ofSong 64 = .ok (.invokevirtual 87, 3) := by decide +kernel
theorem dX6_ofSong_67 : decode cX6_ofSong 67 = .ok (.ireturn, 1) := by decide +kernel
theorem dX6_ofSong_68 : decode cX6_ofSong 68 = .ok (.aload_n 3, 1) := by decide +kernel
theorem dX6_ofSong_69 : decode cX6_ofSong 69 = .ok (.iload_n 1, 1) := by decide +kernel
theorem dX6_ofSong_70 : decode cX6_ofSong 70 = .ok (.iconst 0, 1) := by decide +kernel
theorem dX6_ofSong_71 : decode cX6_ofSong 71 = .ok (.invokevirtual 90, 3) := by decide +kernel
theorem dX6_ofSong_74 : decode cX6_ofSong 74 = .ok (.ireturn, 1) := by decide +kernel
theorem dX6_ofSong_75 : decode cX6_ofSong 75 = .ok (.aload_n 3, 1) := by decide +kernel
theorem dX6_ofSong_76 : decode cX6_ofSong 76 = .ok (.iload_n 1, 1) := by decide +kernel
theorem dX6_ofSong_77 : decode cX6_ofSong 77 = .ok (.invokevirtual 93, 3) := by decide +kernel
theorem dX6_ofSong_80 : decode cX6_ofSong 80 = .ok (.ireturn, 1) := by decide +kernel
theorem dX6_ofSong_81 : decode cX6_ofSong 81 = .ok (.aload_n 3, 1) := by decide +kernel
theorem dX6_ofSong_82 : decode cX6_ofSong 82 = .ok (.iload_n 1, 1) := by decide +kernel
theorem dX6_ofSong_83 : decode cX6_ofSong 83 = .ok (.invokevirtual 96, 3) := by decide +kernel
theorem dX6_ofSong_86 : decode cX6_ofSong 86 = .ok (.ireturn, 1) := by decide +kernel
theorem dX6_ofSong_87 : decode cX6_ofSong 87 = .ok (.aload_n 0, 1) := by decide +kernel
theorem dX6_ofSong_88 : decode cX6_ofSong 88 = .ok (.getfield 10, 3) := by decide +kernel
theorem dX6_ofSong_91 : decode cX6_ofSong 91 = .ok (.iload_n 1, 1) := by decide +kernel
theorem dX6_ofSong_92 : decode cX6_ofSong 92 = .ok (.invokevirtual 99, 3) := by decide +kernel
theorem dX6_ofSong_95 : decode cX6_ofSong 95 = .ok (.ireturn, 1) := by decide +kernel
theorem dX6_ofSong_96 : decode cX6_ofSong 96 = .ok (.bipush (-2), 2) := by decide +kernel
theorem dX6_ofSong_98 : decode cX6_ofSong 98 = .ok (.ireturn, 1) := by decide +kernel
theorem dX6_bar_0 : decode cX6_bar 0 = .ok (.aload_n 0, 1) := by decide +kernel
theorem dX6_bar_1 : decode cX6_bar 1 = .ok (.getfield 10, 3) := by decide +kernel
theorem dX6_bar_4 : decode cX6_bar 4 = .ok (.getfield 74, 3) := by decide +kernel
theorem dX6_bar_7 : decode cX6_bar 7 = .ok (.iload_n 1, 1) := by decide +kernel
theorem dX6_bar_8 : decode cX6_bar 8 = .ok (.iload_n 2, 1) := by decide +kernel
theorem dX6_bar_9 : decode cX6_bar 9 = .ok (.invokevirtual 102, 3) := by decide +kernel
theorem dX6_bar_12 : decode cX6_bar 12 = .ok (.ifCond .ne 5, 3) := by decide +kernel
theorem dX6_bar_15 : decode cX6_bar 15 = .ok (.iconst (-1), 1) := by decide +kernel
theorem dX6_bar_16 : decode cX6_bar 16 = .ok (.ireturn, 1) := by decide +kernel
theorem dX6_bar_17 : decode cX6_bar 17 = .ok (.aload_n 0, 1) := by decide +kernel
theorem dX6_bar_18 : decode cX6_bar 18 = .ok (.getfield 10, 3) := by decide +kernel
theorem dX6_bar_21 : decode cX6_bar 21 = .ok (.getfield 74, 3) := by decide +kernel
theorem dX6_bar_24 : decode cX6_bar 24 = .ok (.iload_n 1, 1) := by decide +kernel
theorem dX6_bar_25 : decode cX6_bar 25 = .ok (.iload_n 2, 1) := by decide +kernel
theorem dX6_bar_26 : decode cX6_bar 26 = .ok (.invokevirtual 90, 3) := by decide +kernel
theorem dX6_bar_29 : decode cX6_bar 29 = .ok (.ireturn, 1) := by decide +kernel
theorem dX6_of_0 : decode cX6_of 0 = .ok (.aload_n 0, 1) := by decide +kernel
theorem dX6_of_1 : decode cX6_of 1 = .ok (.getfield 10, 3) := by decide +kernel
theorem dX6_of_4 : decode cX6_of 4 = .ok (.iload_n 1, 1) := by decide +kernel
theorem dX6_of_5 : decode cX6_of 5 = .ok (.invokevirtual 106, 3) := by decide +kernel
theorem dX6_of_8 : decode cX6_of 8 = .ok (.ifCond .ne 5, 3) := by decide +kernel
theorem dX6_of_11 : decode cX6_of 11 = .ok (.iconst (-1), 1) := by decide +kernel
theorem dX6_of_12 : decode cX6_of 12 = .ok (.ireturn, 1) := by decide +kernel
theorem dX6_of_13 : decode cX6_of 13 = .ok (.aload_n 0, 1) := by decide +kernel
theorem dX6_of_14 : decode cX6_of 14 = .ok (.getfield 10, 3) := by decide +kernel
theorem dX6_of_17 : decode cX6_of 17 = .ok (.getfield 109, 3) := by decide +kernel
theorem dX6_of_20 : decode cX6_of 20 = .ok (.iload_n 1, 1) := by decide +kernel
theorem dX6_of_21 : decode cX6_of 21 = .ok (.aaload, 1) := by decide +kernel
theorem dX6_of_22 : decode cX6_of 22 = .ok (.astore_n 3, 1) := by decide +kernel
theorem dX6_of_23 : decode cX6_of 23 = .ok (.iload_n 2, 1) := by decide +kernel
theorem dX6_of_24 : decode cX6_of 24 = .ok (.tableswitch 86 0 6 #[44, 49, 54, 59, 64, 69, 74], 44) := by decide +kernel
theorem dX6_of_68 : decode cX6_of 68 = .ok (.aload_n 3, 1) := by decide +kernel
theorem dX6_of_69 : decode cX6_of 69 = .ok (.getfield 113, 3) := by decide +kernel
theorem dX6_of_72 : decode cX6_of 72 = .ok (.ireturn, 1) := by decide +kernel
theorem dX6_of_73 : decode cX6_of 73 = .ok (.aload_n 3, 1) := by decide +kernel
theorem dX6_of_74 : decode cX6_of 74 = .ok (.invokevirtual 117, 3) := by decide +kernel
theorem dX6_of_77 : decode cX6_of 77 = .ok (.ireturn, 1) := by decide +kernel
theorem dX6_of_78 : decode cX6_of 78 = .ok (.aload_n 3, 1) := by decide +kernel
theorem dX6_of_79 : decode cX6_of 79 = .ok (.getfield 120, 3) := by decide +kernel
theorem dX6_of_82 : decode cX6_of 82 = .ok (.ireturn, 1) := by decide +kernel
theorem dX6_of_83 : decode cX6_of 83 = .ok (.aload_n 3, 1) := by decide +kernel
theorem dX6_of_84 : decode cX6_of 84 = .ok (.getfield 123, 3) := by decide +kernel
theorem dX6_of_87 : decode cX6_of 87 = .ok (.ireturn, 1) := by decide +kernel
theorem dX6_of_88 : decode cX6_of 88 = .ok (.aload_n 3, 1) := by decide +kernel
theorem dX6_of_89 : decode cX6_of 89 = .ok (.getfield 126, 3) := by decide +kernel
theorem dX6_of_92 : decode cX6_of 92 = .ok (.ireturn, 1) := by decide +kernel
theorem dX6_of_93 : decode cX6_of 93 = .ok (.aload_n 3, 1) := by decide +kernel
theorem dX6_of_94 : decode cX6_of 94 = .ok (.getfield 129, 3) := by decide +kernel
theorem dX6_of_97 : decode cX6_of 97 = .ok (.ireturn, 1) := by decide +kernel
theorem dX6_of_98 : decode cX6_of 98 = .ok (.aload_n 0, 1) := by decide +kernel
theorem dX6_of_99 : decode cX6_of 99 = .ok (.getfield 10, 3) := by decide +kernel
theorem dX6_of_102 : decode cX6_of 102 = .ok (.getfield 74, 3) := by decide +kernel
theorem dX6_of_105 : decode cX6_of 105 = .ok (.aload_n 3, 1) := by decide +kernel
theorem dX6_of_106 : decode cX6_of 106 = .ok (.invokevirtual 132, 3) := by decide +kernel
theorem dX6_of_109 : decode cX6_of 109 = .ok (.ireturn, 1) := by decide +kernel
theorem dX6_of_110 : decode cX6_of 110 = .ok (.bipush (-2), 2) := by decide +kernel
theorem dX6_of_112 : decode cX6_of 112 = .ok (.ireturn, 1) := by decide +kernel
theorem dX6_link_0 : decode cX6_link 0 = .ok (.aload_n 0, 1) := by decide +kernel
theorem dX6_link_1 : decode cX6_link 1 = .ok (.getfield 10, 3) := by decide +kernel
theorem dX6_link_4 : decode cX6_link 4 = .ok (.iload_n 1, 1) := by decide +kernel
theorem dX6_link_5 : decode cX6_link 5 = .ok (.invokevirtual 106, 3) := by decide +kernel
theorem dX6_link_8 : decode cX6_link 8 = .ok (.ifCond .eq 23, 3) := by decide +kernel
theorem dX6_link_11 : decode cX6_link 11 = .ok (.iload_n 2, 1) := by decide +kernel
theorem dX6_link_12 : decode cX6_link 12 = .ok (.ifCond .lt 19, 3) := by decide +kernel
theorem dX6_link_15 : decode cX6_link 15 = .ok (.iload_n 2, 1) := by decide +kernel
theorem dX6_link_16 : decode cX6_link 16 = .ok (.aload_n 0, 1) := by decide +kernel
theorem dX6_link_17 : decode cX6_link 17 = .ok (.getfield 10, 3) := by decide +kernel
theorem dX6_link_20 : decode cX6_link 20 = .ok (.getfield 109, 3) := by decide +kernel
theorem dX6_link_23 : decode cX6_link 23 = .ok (.iload_n 1, 1) := by decide +kernel
theorem dX6_link_24 : decode cX6_link 24 = .ok (.aaload, 1) := by decide +kernel
theorem dX6_link_25 : decode cX6_link 25 = .ok (.getfield 113, 3) := by decide +kernel
theorem dX6_link_28 : decode cX6_link 28 = .ok (.if_icmp .lt 5, 3) := by decide +kernel
theorem dX6_link_31 : decode cX6_link 31 = .ok (.iconst (-1), 1) := by decide +kernel
theorem dX6_link_32 : decode cX6_link 32 = .ok (.ireturn, 1) := by decide +kernel
theorem dX6_link_33 : decode cX6_link 33 = .ok (.iload_n 3, 1) := by decide +kernel
theorem dX6_link_34 : decode cX6_link 34 = .ok (.ifCond .lt 8, 3) := by decide +kernel
theorem dX6_link_37 : decode cX6_link 37 = .ok (.iload_n 3, 1) := by decide +kernel
theorem dX6_link_38 : decode cX6_link 38 = .ok (.iconst 4, 1) := by decide +kernel
theorem dX6_link_39 : decode cX6_link 39 = .ok (.if_icmp .lt 6, 3) := by decide +kernel
theorem dX6_link_42 : decode cX6_link 42 = .ok (.bipush (-2), 2) := by decide +kernel
theorem dX6_link_44 : decode cX6_link 44 = .ok (.ireturn, 1) := by decide +kernel
theorem dX6_link_45 : decode cX6_link 45 = .ok (.aload_n 0, 1) := by decide +kernel
theorem dX6_link_46 : decode cX6_link 46 = .ok (.getfield 10, 3) := by decide +kernel
theorem dX6_link_49 : decode cX6_link 49 = .ok (.getfield 109, 3) := by decide +kernel
theorem dX6_link_52 : decode cX6_link 52 = .ok (.iload_n 1, 1) := by decide +kernel
theorem dX6_link_53 : decode cX6_link 53 = .ok (.aaload, 1) := by decide +kernel
theorem dX6_link_54 : decode cX6_link 54 = .ok (.iload_n 2, 1) := by decide +kernel
theorem dX6_link_55 : decode cX6_link 55 = .ok (.iload_n 3, 1) := by decide +kernel
theorem dX6_link_56 : decode cX6_link 56 = .ok (.invokevirtual 136, 3) := by decide +kernel
theorem dX6_link_59 : decode cX6_link 59 = .ok (.ireturn, 1) := by decide +kernel
theorem dX6_sings_0 : decode cX6_sings 0 = .ok (.aload_n 0, 1) := by decide +kernel
theorem dX6_sings_1 : decode cX6_sings 1 = .ok (.getfield 10, 3) := by decide +kernel
theorem dX6_sings_4 : decode cX6_sings 4 = .ok (.iload_n 1, 1) := by decide +kernel
theorem dX6_sings_5 : decode cX6_sings 5 = .ok (.invokevirtual 106, 3) := by decide +kernel
theorem dX6_sings_8 : decode cX6_sings 8 = .ok (.ifCond .ne 5, 3) := by decide +kernel
theorem dX6_sings_11 : decode cX6_sings 11 = .ok (.iconst (-1), 1) := by decide +kernel
theorem dX6_sings_12 : decode cX6_sings 12 = .ok (.ireturn, 1) := by decide +kernel
theorem dX6_sings_13 : decode cX6_sings 13 = .ok (.iload_n 2, 1) := by decide +kernel
theorem dX6_sings_14 : decode cX6_sings 14 = .ok (.ifCond .lt 19, 3) := by decide +kernel
theorem dX6_sings_17 : decode cX6_sings 17 = .ok (.iload_n 2, 1) := by decide +kernel
theorem dX6_sings_18 : decode cX6_sings 18 = .ok (.bipush 26, 2) := by decide +kernel
theorem dX6_sings_20 : decode cX6_sings 20 = .ok (.if_icmp .ge 13, 3) := by decide +kernel
theorem dX6_sings_23 : decode cX6_sings 23 = .ok (.iload_n 3, 1) := by decide +kernel
theorem dX6_sings_24 : decode cX6_sings 24 = .ok (.ifCond .lt 9, 3) := by decide +kernel
theorem dX6_sings_27 : decode cX6_sings 27 = .ok (.iload_n 3, 1) := by decide +kernel
theorem dX6_sings_28 : decode cX6_sings 28 = .ok (.bipush 99, 2) := by decide +kernel
theorem dX6_sings_30 : decode cX6_sings 30 = .ok (.if_icmp .le 6, 3) := by decide +kernel
theorem dX6_sings_33 : decode cX6_sings 33 = .ok (.bipush (-2), 2) := by decide +kernel
theorem dX6_sings_35 : decode cX6_sings 35 = .ok (.ireturn, 1) := by decide +kernel
theorem dX6_sings_36 : decode cX6_sings 36 = .ok (.iload_n 2, 1) := by decide +kernel
theorem dX6_sings_37 : decode cX6_sings 37 = .ok (.istore 4, 2) := by decide +kernel
theorem dX6_sings_39 : decode cX6_sings 39 = .ok (.iconst 0, 1) := by decide +kernel
theorem dX6_sings_40 : decode cX6_sings 40 = .ok (.istore 5, 2) := by decide +kernel
theorem dX6_sings_42 : decode cX6_sings 42 = .ok (.iload 5, 2) := by decide +kernel
theorem dX6_sings_44 : decode cX6_sings 44 = .ok (.iload_n 3, 1) := by decide +kernel
theorem dX6_sings_45 : decode cX6_sings 45 = .ok (.if_icmp .ge 32, 3) := by decide +kernel
theorem dX6_sings_48 : decode cX6_sings 48 = .ok (.iload 4, 2) := by decide +kernel
theorem dX6_sings_50 : decode cX6_sings 50 = .ok (.bipush (-6), 2) := by decide +kernel
theorem dX6_sings_52 : decode cX6_sings 52 = .ok (.if_icmp .eq 25, 3) := by decide +kernel
theorem dX6_sings_55 : decode cX6_sings 55 = .ok (.aload_n 0, 1) := by decide +kernel
theorem dX6_sings_56 : decode cX6_sings 56 = .ok (.getfield 10, 3) := by decide +kernel
theorem dX6_sings_59 : decode cX6_sings 59 = .ok (.getfield 109, 3) := by decide +kernel
theorem dX6_sings_62 : decode cX6_sings 62 = .ok (.iload_n 1, 1) := by decide +kernel
theorem dX6_sings_63 : decode cX6_sings 63 = .ok (.aaload, 1) := by decide +kernel
theorem dX6_sings_64 : decode cX6_sings 64 = .ok (.iload 4, 2) := by decide +kernel
theorem dX6_sings_66 : decode cX6_sings 66 = .ok (.invokevirtual 139, 3) := by decide +kernel
theorem dX6_sings_69 : decode cX6_sings 69 = .ok (.istore 4, 2) := by decide +kernel
theorem dX6_sings_71 : decode cX6_sings 71 = .ok (.iinc 5 1, 3) := by decide +kernel
theorem dX6_sings_74 : decode cX6_sings 74 = .ok (.goto (-32), 3) := by decide +kernel
theorem dX6_sings_77 : decode cX6_sings 77 = .ok (.iload 4, 2) := by decide +kernel
theorem dX6_sings_79 : decode cX6_sings 79 = .ok (.ireturn, 1) := by decide +kernel
theorem dX6_knows_0 : decode cX6_knows 0 = .ok (.aload_n 0, 1) := by decide +kernel
theorem dX6_knows_1 : decode cX6_knows 1 = .ok (.getfield 10, 3) := by decide +kernel
theorem dX6_knows_4 : decode cX6_knows 4 = .ok (.iload_n 1, 1) := by decide +kernel
theorem dX6_knows_5 : decode cX6_knows 5 = .ok (.invokevirtual 106, 3) := by decide +kernel
theorem dX6_knows_8 : decode cX6_knows 8 = .ok (.ifCond .eq 17, 3) := by decide +kernel
theorem dX6_knows_11 : decode cX6_knows 11 = .ok (.aload_n 0, 1) := by decide +kernel
theorem dX6_knows_12 : decode cX6_knows 12 = .ok (.getfield 10, 3) := by decide +kernel
theorem dX6_knows_15 : decode cX6_knows 15 = .ok (.getfield 74, 3) := by decide +kernel
theorem dX6_knows_18 : decode cX6_knows 18 = .ok (.iload_n 2, 1) := by decide +kernel
theorem dX6_knows_19 : decode cX6_knows 19 = .ok (.invokevirtual 78, 3) := by decide +kernel
theorem dX6_knows_22 : decode cX6_knows 22 = .ok (.ifCond .ne 5, 3) := by decide +kernel
theorem dX6_knows_25 : decode cX6_knows 25 = .ok (.iconst (-1), 1) := by decide +kernel
theorem dX6_knows_26 : decode cX6_knows 26 = .ok (.ireturn, 1) := by decide +kernel
theorem dX6_knows_27 : decode cX6_knows 27 = .ok (.aload_n 0, 1) := by decide +kernel
theorem dX6_knows_28 : decode cX6_knows 28 = .ok (.getfield 10, 3) := by decide +kernel
theorem dX6_knows_31 : decode cX6_knows 31 = .ok (.getfield 74, 3) := by decide +kernel
theorem dX6_knows_34 : decode cX6_knows 34 = .ok (.aload_n 0, 1) := by decide +kernel
theorem dX6_knows_35 : decode cX6_knows 35 = .ok (.getfield 10, 3) := by decide +kernel
theorem dX6_knows_38 : decode cX6_knows 38 = .ok (.getfield 109, 3) := by decide +kernel
theorem dX6_knows_41 : decode cX6_knows 41 = .ok (.iload_n 1, 1) := by decide +kernel
theorem dX6_knows_42 : decode cX6_knows 42 = .ok (.aaload, 1) := by decide +kernel
theorem dX6_knows_43 : decode cX6_knows 43 = .ok (.iload_n 2, 1) := by decide +kernel
theorem dX6_knows_44 : decode cX6_knows 44 = .ok (.invokevirtual 142, 3) := by decide +kernel
theorem dX6_knows_47 : decode cX6_knows 47 = .ok (.ireturn, 1) := by decide +kernel
theorem dX6_mistake_0 : decode cX6_mistake 0 = .ok (.aload_n 0, 1) := by decide +kernel
theorem dX6_mistake_1 : decode cX6_mistake 1 = .ok (.getfield 10, 3) := by decide +kernel
theorem dX6_mistake_4 : decode cX6_mistake 4 = .ok (.getfield 74, 3) := by decide +kernel
theorem dX6_mistake_7 : decode cX6_mistake 7 = .ok (.astore 4, 2) := by decide +kernel
theorem dX6_mistake_9 : decode cX6_mistake 9 = .ok (.aload_n 0, 1) := by decide +kernel
theorem dX6_mistake_10 : decode cX6_mistake 10 = .ok (.getfield 10, 3) := by decide +kernel
theorem dX6_mistake_13 : decode cX6_mistake 13 = .ok (.iload_n 1, 1) := by decide +kernel
theorem dX6_mistake_14 : decode cX6_mistake 14 = .ok (.invokevirtual 106, 3) := by decide +kernel
theorem dX6_mistake_17 : decode cX6_mistake 17 = .ok (.ifCond .eq 12, 3) := by decide +kernel
theorem dX6_mistake_20 : decode cX6_mistake 20 = .ok (.aload 4, 2) := by decide +kernel
theorem dX6_mistake_22 : decode cX6_mistake 22 = .ok (.iload_n 2, 1) := by decide +kernel
theorem dX6_mistake_23 : decode cX6_mistake 23 = .ok (.invokevirtual 78, 3) := by decide +kernel
theorem dX6_mistake_26 : decode cX6_mistake 26 = .ok (.ifCond .ne 5, 3) := by decide +kernel
theorem dX6_mistake_29 : decode cX6_mistake 29 = .ok (.iconst (-1), 1) := by decide +kernel
theorem dX6_mistake_30 : decode cX6_mistake 30 = .ok (.ireturn, 1) := by decide +kernel
theorem dX6_mistake_31 : decode cX6_mistake 31 = .ok (.iload_n 3, 1) := by decide +kernel
theorem dX6_mistake_32 : decode cX6_mistake 32 = .ok (.ifCond .lt 8, 3) := by decide +kernel
theorem dX6_mistake_35 : decode cX6_mistake 35 = .ok (.iload_n 3, 1) := by decide +kernel
theorem dX6_mistake_36 : decode cX6_mistake 36 = .ok (.iconst 2, 1) := by decide +kernel
theorem dX6_mistake_37 : decode cX6_mistake 37 = .ok (.if_icmp .le 6, 3) := by decide +kernel
theorem dX6_mistake_40 : decode cX6_mistake 40 = .ok (.bipush (-2), 2) := by decide +kernel
theorem dX6_mistake_42 : decode cX6_mistake 42 = .ok (.ireturn, 1) := by decide +kernel
theorem dX6_mistake_43 : decode cX6_mistake 43 = .ok (.aload_n 0, 1) := by decide +kernel
theorem dX6_mistake_44 : decode cX6_mistake 44 = .ok (.getfield 10, 3) := by decide +kernel
theorem dX6_mistake_47 : decode cX6_mistake 47 = .ok (.getfield 109, 3) := by decide +kernel
theorem dX6_mistake_50 : decode cX6_mistake 50 = .ok (.iload_n 1, 1) := by decide +kernel
theorem dX6_mistake_51 : decode cX6_mistake 51 = .ok (.aaload, 1) := by decide +kernel
theorem dX6_mistake_52 : decode cX6_mistake 52 = .ok (.astore 5, 2) := by decide +kernel
theorem dX6_mistake_54 : decode cX6_mistake 54 = .ok (.aload 4, 2) := by decide +kernel
theorem dX6_mistake_56 : decode cX6_mistake 56 = .ok (.aload 5, 2) := by decide +kernel
theorem dX6_mistake_58 : decode cX6_mistake 58 = .ok (.iload_n 2, 1) := by decide +kernel
theorem dX6_mistake_59 : decode cX6_mistake 59 = .ok (.invokevirtual 146, 3) := by decide +kernel
theorem dX6_mistake_62 : decode cX6_mistake 62 = .ok (.istore 6, 2) := by decide +kernel
theorem dX6_mistake_64 : decode cX6_mistake 64 = .ok (.iload 6, 2) := by decide +kernel
theorem dX6_mistake_66 : decode cX6_mistake 66 = .ok (.aload 4, 2) := by decide +kernel
theorem dX6_mistake_68 : decode cX6_mistake 68 = .ok (.iload_n 2, 1) := by decide +kernel
theorem dX6_mistake_69 : decode cX6_mistake 69 = .ok (.invokevirtual 84, 3) := by decide +kernel
theorem dX6_mistake_72 : decode cX6_mistake 72 = .ok (.if_icmp .lt 6, 3) := by decide +kernel
theorem dX6_mistake_75 : decode cX6_mistake 75 = .ok (.bipush (-5), 2) := by decide +kernel
theorem dX6_mistake_77 : decode cX6_mistake 77 = .ok (.ireturn, 1) := by decide +kernel
theorem dX6_mistake_78 : decode cX6_mistake 78 = .ok (.iload_n 3, 1) := by decide +kernel
theorem dX6_mistake_79 : decode cX6_mistake 79 = .ok (.ifCond .ne 6, 3) := by decide +kernel
theorem dX6_mistake_82 : decode cX6_mistake 82 = .ok (.iload 6, 2) := by decide +kernel
theorem dX6_mistake_84 : decode cX6_mistake 84 = .ok (.ireturn, 1) := by decide +kernel
theorem dX6_mistake_85 : decode cX6_mistake 85 = .ok (.aload 4, 2) := by decide +kernel
theorem dX6_mistake_87 : decode cX6_mistake 87 = .ok (.iload_n 2, 1) := by decide +kernel
theorem dX6_mistake_88 : decode cX6_mistake 88 = .ok (.iload 6, 2) := by decide +kernel
theorem dX6_mistake_90 : decode cX6_mistake 90 = .ok (.iconst 1, 1) := by decide +kernel
theorem dX6_mistake_91 : decode cX6_mistake 91 = .ok (.isub, 1) := by decide +kernel
theorem dX6_mistake_92 : decode cX6_mistake 92 = .ok (.invokevirtual 90, 3) := by decide +kernel
theorem dX6_mistake_95 : decode cX6_mistake 95 = .ok (.istore 7, 2) := by decide +kernel
theorem dX6_mistake_97 : decode cX6_mistake 97 = .ok (.aload 5, 2) := by decide +kernel
theorem dX6_mistake_99 : decode cX6_mistake 99 = .ok (.iload 7, 2) := by decide +kernel
theorem dX6_mistake_101 : decode cX6_mistake 101 = .ok (.invokevirtual 139, 3) := by decide +kernel
theorem dX6_mistake_104 : decode cX6_mistake 104 = .ok (.istore 8, 2) := by decide +kernel
theorem dX6_mistake_106 : decode cX6_mistake 106 = .ok (.iload_n 3, 1) := by decide +kernel
theorem dX6_mistake_107 : decode cX6_mistake 107 = .ok (.iconst 1, 1) := by decide +kernel
theorem dX6_mistake_108 : decode cX6_mistake 108 = .ok (.if_icmp .ne 8, 3) := by decide +kernel
theorem dX6_mistake_111 : decode cX6_mistake 111 = .ok (.iload 8, 2) := by decide +kernel
theorem dX6_mistake_113 : decode cX6_mistake 113 = .ok (.goto 12, 3) := by decide +kernel
theorem dX6_mistake_116 : decode cX6_mistake 116 = .ok (.aload 4, 2) := by decide +kernel
theorem dX6_mistake_118 : decode cX6_mistake 118 = .ok (.iload 7, 2) := by decide +kernel
theorem dX6_mistake_120 : decode cX6_mistake 120 = .ok (.iload 8, 2) := by decide +kernel
theorem dX6_mistake_122 : decode cX6_mistake 122 = .ok (.invokevirtual 149, 3) := by decide +kernel
theorem dX6_mistake_125 : decode cX6_mistake 125 = .ok (.ireturn, 1) := by decide +kernel
theorem dX6_rhymes_0 : decode cX6_rhymes 0 = .ok (.aload_n 0, 1) := by decide +kernel
theorem dX6_rhymes_1 : decode cX6_rhymes 1 = .ok (.getfield 10, 3) := by decide +kernel
theorem dX6_rhymes_4 : decode cX6_rhymes 4 = .ok (.getfield 74, 3) := by decide +kernel
theorem dX6_rhymes_7 : decode cX6_rhymes 7 = .ok (.iload_n 1, 1) := by decide +kernel
theorem dX6_rhymes_8 : decode cX6_rhymes 8 = .ok (.invokevirtual 78, 3) := by decide +kernel
theorem dX6_rhymes_11 : decode cX6_rhymes 11 = .ok (.ifCond .eq 17, 3) := by decide +kernel
theorem dX6_rhymes_14 : decode cX6_rhymes 14 = .ok (.aload_n 0, 1) := by decide +kernel
theorem dX6_rhymes_15 : decode cX6_rhymes 15 = .ok (.getfield 10, 3) := by decide +kernel
theorem dX6_rhymes_18 : decode cX6_rhymes 18 = .ok (.getfield 74, 3) := by decide +kernel
theorem dX6_rhymes_21 : decode cX6_rhymes 21 = .ok (.iload_n 2, 1) := by decide +kernel
theorem dX6_rhymes_22 : decode cX6_rhymes 22 = .ok (.invokevirtual 78, 3) := by decide +kernel
theorem dX6_rhymes_25 : decode cX6_rhymes 25 = .ok (.ifCond .ne 5, 3) := by decide +kernel
theorem dX6_rhymes_28 : decode cX6_rhymes 28 = .ok (.iconst (-1), 1) := by decide +kernel
theorem dX6_rhymes_29 : decode cX6_rhymes 29 = .ok (.ireturn, 1) := by decide +kernel
theorem dX6_rhymes_30 : decode cX6_rhymes 30 = .ok (.aload_n 0, 1) := by decide +kernel
theorem dX6_rhymes_31 : decode cX6_rhymes 31 = .ok (.getfield 10, 3) := by decide +kernel
theorem dX6_rhymes_34 : decode cX6_rhymes 34 = .ok (.getfield 74, 3) := by decide +kernel
theorem dX6_rhymes_37 : decode cX6_rhymes 37 = .ok (.iload_n 1, 1) := by decide +kernel
theorem dX6_rhymes_38 : decode cX6_rhymes 38 = .ok (.iload_n 2, 1) := by decide +kernel
theorem dX6_rhymes_39 : decode cX6_rhymes 39 = .ok (.invokevirtual 152, 3) := by decide +kernel
theorem dX6_rhymes_42 : decode cX6_rhymes 42 = .ok (.ireturn, 1) := by decide +kernel
theorem dX6_follows_0 : decode cX6_follows 0 = .ok (.aload_n 0, 1) := by decide +kernel
theorem dX6_follows_1 : decode cX6_follows 1 = .ok (.getfield 10, 3) := by decide +kernel
theorem dX6_follows_4 : decode cX6_follows 4 = .ok (.iload_n 1, 1) := by decide +kernel
theorem dX6_follows_5 : decode cX6_follows 5 = .ok (.invokevirtual 106, 3) := by decide +kernel
theorem dX6_follows_8 : decode cX6_follows 8 = .ok (.ifCond .eq 17, 3) := by decide +kernel
theorem dX6_follows_11 : decode cX6_follows 11 = .ok (.aload_n 0, 1) := by decide +kernel
theorem dX6_follows_12 : decode cX6_follows 12 = .ok (.getfield 10, 3) := by decide +kernel
theorem dX6_follows_15 : decode cX6_follows 15 = .ok (.getfield 74, 3) := by decide +kernel
theorem dX6_follows_18 : decode cX6_follows 18 = .ok (.iload_n 2, 1) := by decide +kernel
theorem dX6_follows_19 : decode cX6_follows 19 = .ok (.invokevirtual 78, 3) := by decide +kernel
theorem dX6_follows_22 : decode cX6_follows 22 = .ok (.ifCond .ne 5, 3) := by decide +kernel
theorem dX6_follows_25 : decode cX6_follows 25 = .ok (.iconst (-1), 1) := by decide +kernel
theorem dX6_follows_26 : decode cX6_follows 26 = .ok (.ireturn, 1) := by decide +kernel
theorem dX6_follows_27 : decode cX6_follows 27 = .ok (.aload_n 0, 1) := by decide +kernel
theorem dX6_follows_28 : decode cX6_follows 28 = .ok (.getfield 10, 3) := by decide +kernel
theorem dX6_follows_31 : decode cX6_follows 31 = .ok (.getfield 109, 3) := by decide +kernel
theorem dX6_follows_34 : decode cX6_follows 34 = .ok (.iload_n 1, 1) := by decide +kernel
theorem dX6_follows_35 : decode cX6_follows 35 = .ok (.aaload, 1) := by decide +kernel
theorem dX6_follows_36 : decode cX6_follows 36 = .ok (.aload_n 0, 1) := by decide +kernel
theorem dX6_follows_37 : decode cX6_follows 37 = .ok (.getfield 10, 3) := by decide +kernel
theorem dX6_follows_40 : decode cX6_follows 40 = .ok (.getfield 74, 3) := by decide +kernel
theorem dX6_follows_43 : decode cX6_follows 43 = .ok (.iload_n 2, 1) := by decide +kernel
theorem dX6_follows_44 : decode cX6_follows 44 = .ok (.invokevirtual 93, 3) := by decide +kernel
theorem dX6_follows_47 : decode cX6_follows 47 = .ok (.invokevirtual 139, 3) := by decide +kernel
theorem dX6_follows_50 : decode cX6_follows 50 = .ok (.istore_n 3, 1) := by decide +kernel
theorem dX6_follows_51 : decode cX6_follows 51 = .ok (.aload_n 0, 1) := by decide +kernel
theorem dX6_follows_52 : decode cX6_follows 52 = .ok (.getfield 10, 3) := by decide +kernel
theorem dX6_follows_55 : decode cX6_follows 55 = .ok (.getfield 74, 3) := by decide +kernel
theorem dX6_follows_58 : decode cX6_follows 58 = .ok (.iload_n 3, 1) := by decide +kernel
theorem dX6_follows_59 : decode cX6_follows 59 = .ok (.invokevirtual 155, 3) := by decide +kernel
theorem dX6_follows_62 : decode cX6_follows 62 = .ok (.ireturn, 1) := by decide +kernel
theorem dX6_count_0 : decode cX6_count 0 = .ok (.iload_n 1, 1) := by decide +kernel
theorem dX6_count_1 : decode cX6_count 1 = .ok (.tableswitch 200 0 13 #[71, 79, 90, 98, 109, 117, 125, 133, 141, 151, 161, 171, 181, 192], 71) := by decide +kernel
theorem dX6_count_72 : decode cX6_count 72 = .ok (.aload_n 0, 1) := by decide +kernel
theorem dX6_count_73 : decode cX6_count 73 = .ok (.getfield 10, 3) := by decide +kernel
theorem dX6_count_76 : decode cX6_count 76 = .ok (.getfield 158, 3) := by decide +kernel
theorem dX6_count_79 : decode cX6_count 79 = .ok (.ireturn, 1) := by decide +kernel
theorem dX6_count_80 : decode cX6_count 80 = .ok (.aload_n 0, 1) := by decide +kernel
theorem dX6_count_81 : decode cX6_count 81 = .ok (.getfield 10, 3) := by decide +kernel
theorem dX6_count_84 : decode cX6_count 84 = .ok (.getfield 74, 3) := by decide +kernel
theorem dX6_count_87 : decode cX6_count 87 = .ok (.getfield 161, 3) := by decide +kernel
theorem dX6_count_90 : decode cX6_count 90 = .ok (.ireturn, 1) := by decide +kernel
theorem dX6_count_91 : decode cX6_count 91 = .ok (.aload_n 0, 1) := by decide +kernel
theorem dX6_count_92 : decode cX6_count 92 = .ok (.getfield 10, 3) := by decide +kernel
theorem dX6_count_95 : decode cX6_count 95 = .ok (.getfield 162, 3) := by decide +kernel
theorem dX6_count_98 : decode cX6_count 98 = .ok (.ireturn, 1) := by decide +kernel
theorem dX6_count_99 : decode cX6_count 99 = .ok (.aload_n 0, 1) := by decide +kernel
theorem dX6_count_100 : decode cX6_count 100 = .ok (.getfield 10, 3) := by decide +kernel
theorem dX6_count_103 : decode cX6_count 103 = .ok (.getfield 74, 3) := by decide +kernel
theorem dX6_count_106 : decode cX6_count 106 = .ok (.invokevirtual 165, 3) := by decide +kernel
theorem dX6_count_109 : decode cX6_count 109 = .ok (.ireturn, 1) := by decide +kernel
theorem dX6_count_110 : decode cX6_count 110 = .ok (.aload_n 0, 1) := by decide +kernel
theorem dX6_count_111 : decode cX6_count 111 = .ok (.getfield 10, 3) := by decide +kernel
theorem dX6_count_114 : decode cX6_count 114 = .ok (.invokevirtual 168, 3) := by decide +kernel
theorem dX6_count_117 : decode cX6_count 117 = .ok (.ireturn, 1) := by decide +kernel
theorem dX6_count_118 : decode cX6_count 118 = .ok (.aload_n 0, 1) := by decide +kernel
theorem dX6_count_119 : decode cX6_count 119 = .ok (.getfield 10, 3) := by decide +kernel
theorem dX6_count_122 : decode cX6_count 122 = .ok (.invokevirtual 171, 3) := by decide +kernel
theorem dX6_count_125 : decode cX6_count 125 = .ok (.ireturn, 1) := by decide +kernel
theorem dX6_count_126 : decode cX6_count 126 = .ok (.aload_n 0, 1) := by decide +kernel
theorem dX6_count_127 : decode cX6_count 127 = .ok (.getfield 10, 3) := by decide +kernel
theorem dX6_count_130 : decode cX6_count 130 = .ok (.invokevirtual 174, 3) := by decide +kernel
theorem dX6_count_133 : decode cX6_count 133 = .ok (.ireturn, 1) := by decide +kernel
theorem dX6_count_134 : decode cX6_count 134 = .ok (.aload_n 0, 1) := by decide +kernel
theorem dX6_count_135 : decode cX6_count 135 = .ok (.getfield 10, 3) := by decide +kernel
theorem dX6_count_138 : decode cX6_count 138 = .ok (.invokevirtual 177, 3) := by decide +kernel
theorem dX6_count_141 : decode cX6_count 141 = .ok (.ireturn, 1) := by decide +kernel
theorem dX6_count_142 : decode cX6_count 142 = .ok (.aload_n 0, 1) := by decide +kernel
theorem dX6_count_143 : decode cX6_count 143 = .ok (.getfield 10, 3) := by decide +kernel
theorem dX6_count_146 : decode cX6_count 146 = .ok (.getfield 180, 3) := by decide +kernel
theorem dX6_count_149 : decode cX6_count 149 = .ok (.iconst 0, 1) := by decide +kernel
theorem dX6_count_150 : decode cX6_count 150 = .ok (.iaload, 1) := by decide +kernel
theorem dX6_count_151 : decode cX6_count 151 = .ok (.ireturn, 1) := by decide +kernel
theorem dX6_count_152 : decode cX6_count 152 = .ok (.aload_n 0, 1) := by decide +kernel
theorem dX6_count_153 : decode cX6_count 153 = .ok (.getfield 10, 3) := by decide +kernel
theorem dX6_count_156 : decode cX6_count 156 = .ok (.getfield 180, 3) := by decide +kernel
theorem dX6_count_159 : decode cX6_count 159 = .ok (.iconst 1, 1) := by decide +kernel
theorem dX6_count_160 : decode cX6_count 160 = .ok (.iaload, 1) := by decide +kernel
theorem dX6_count_161 : decode cX6_count 161 = .ok (.ireturn, 1) := by decide +kernel
theorem dX6_count_162 : decode cX6_count 162 = .ok (.aload_n 0, 1) := by decide +kernel
theorem dX6_count_163 : decode cX6_count 163 = .ok (.getfield 10, 3) := by decide +kernel
theorem dX6_count_166 : decode cX6_count 166 = .ok (.getfield 180, 3) := by decide +kernel
theorem dX6_count_169 : decode cX6_count 169 = .ok (.iconst 2, 1) := by decide +kernel
theorem dX6_count_170 : decode cX6_count 170 = .ok (.iaload, 1) := by decide +kernel
theorem dX6_count_171 : decode cX6_count 171 = .ok (.ireturn, 1) := by decide +kernel
theorem dX6_count_172 : decode cX6_count 172 = .ok (.aload_n 0, 1) := by decide +kernel
theorem dX6_count_173 : decode cX6_count 173 = .ok (.getfield 10, 3) := by decide +kernel
theorem dX6_count_176 : decode cX6_count 176 = .ok (.getfield 180, 3) := by decide +kernel
theorem dX6_count_179 : decode cX6_count 179 = .ok (.iconst 3, 1) := by decide +kernel
theorem dX6_count_180 : decode cX6_count 180 = .ok (.iaload, 1) := by decide +kernel
theorem dX6_count_181 : decode cX6_count 181 = .ok (.ireturn, 1) := by decide +kernel
theorem dX6_count_182 : decode cX6_count 182 = .ok (.aload_n 0, 1) := by decide +kernel
theorem dX6_count_183 : decode cX6_count 183 = .ok (.getfield 26, 3) := by decide +kernel
theorem dX6_count_186 : decode cX6_count 186 = .ok (.getfield 184, 3) := by decide +kernel
theorem dX6_count_189 : decode cX6_count 189 = .ok (.getfield 188, 3) := by decide +kernel
theorem dX6_count_192 : decode cX6_count 192 = .ok (.ireturn, 1) := by decide +kernel
theorem dX6_count_193 : decode cX6_count 193 = .ok (.aload_n 0, 1) := by decide +kernel
theorem dX6_count_194 : decode cX6_count 194 = .ok (.getfield 19, 3) := by decide +kernel
theorem dX6_count_197 : decode cX6_count 197 = .ok (.getfield 193, 3) := by decide +kernel
theorem dX6_count_200 : decode cX6_count 200 = .ok (.ireturn, 1) := by decide +kernel
theorem dX6_count_201 : decode cX6_count 201 = .ok (.bipush (-2), 2) := by decide +kernel
theorem dX6_count_203 : decode cX6_count 203 = .ok (.ireturn, 1) := by decide +kernel
theorem dX6_lessonsFor_0 : decode cX6_lessonsFor 0 = .ok (.aload_n 0, 1) := by decide +kernel
theorem dX6_lessonsFor_1 : decode cX6_lessonsFor 1 = .ok (.getfield 10, 3) := by decide +kernel
theorem dX6_lessonsFor_4 : decode cX6_lessonsFor 4 = .ok (.iload_n 1, 1) := by decide +kernel
theorem dX6_lessonsFor_5 : decode cX6_lessonsFor 5 = .ok (.invokevirtual 106, 3) := by decide +kernel
theorem dX6_lessonsFor_8 : decode cX6_lessonsFor 8 = .ok (.ifCond .eq 17, 3) := by decide +kernel
theorem dX6_lessonsFor_11 : decode cX6_lessonsFor 11 = .ok (.aload_n 0, 1) := by decide +kernel
theorem dX6_lessonsFor_12 : decode cX6_lessonsFor 12 = .ok (.getfield 10, 3) := by decide +kernel
theorem dX6_lessonsFor_15 : decode cX6_lessonsFor 15 = .ok (.getfield 74, 3) := by decide +kernel
theorem dX6_lessonsFor_18 : decode cX6_lessonsFor 18 = .ok (.iload_n 2, 1) := by decide +kernel
theorem dX6_lessonsFor_19 : decode cX6_lessonsFor 19 = .ok (.invokevirtual 78, 3) := by decide +kernel
theorem dX6_lessonsFor_22 : decode cX6_lessonsFor 22 = .ok (.ifCond .ne 5, 3) := by decide +kernel
theorem dX6_lessonsFor_25 : decode cX6_lessonsFor 25 = .ok (.iconst (-1), 1) := by decide +kernel
theorem dX6_lessonsFor_26 : decode cX6_lessonsFor 26 = .ok (.ireturn, 1) := by decide +kernel
theorem dX6_lessonsFor_27 : decode cX6_lessonsFor 27 = .ok (.aload_n 0, 1) := by decide +kernel
theorem dX6_lessonsFor_28 : decode cX6_lessonsFor 28 = .ok (.getfield 41, 3) := by decide +kernel
theorem dX6_lessonsFor_31 : decode cX6_lessonsFor 31 = .ok (.aload_n 0, 1) := by decide +kernel
theorem dX6_lessonsFor_32 : decode cX6_lessonsFor 32 = .ok (.getfield 10, 3) := by decide +kernel
theorem dX6_lessonsFor_35 : decode cX6_lessonsFor 35 = .ok (.getfield 109, 3) := by decide +kernel
theorem dX6_lessonsFor_38 : decode cX6_lessonsFor 38 = .ok (.iload_n 1, 1) := by decide +kernel
theorem dX6_lessonsFor_39 : decode cX6_lessonsFor 39 = .ok (.aaload, 1) := by decide +kernel
theorem dX6_lessonsFor_40 : decode cX6_lessonsFor 40 = .ok (.invokevirtual 194, 3) := by decide +kernel
theorem dX6_lessonsFor_43 : decode cX6_lessonsFor 43 = .ok (.iconst 0, 1) := by decide +kernel
theorem dX6_lessonsFor_44 : decode cX6_lessonsFor 44 = .ok (.istore_n 3, 1) := by decide +kernel
theorem dX6_lessonsFor_45 : decode cX6_lessonsFor 45 = .ok (.iload_n 3, 1) := by decide +kernel
theorem dX6_lessonsFor_46 : decode cX6_lessonsFor 46 = .ok (.bipush 30, 2) := by decide +kernel
theorem dX6_lessonsFor_48 : decode cX6_lessonsFor 48 = .ok (.if_icmp .gt 50, 3) := by decide +kernel
theorem dX6_lessonsFor_51 : decode cX6_lessonsFor 51 = .ok (.aload_n 0, 1) := by decide +kernel
theorem dX6_lessonsFor_52 : decode cX6_lessonsFor 52 = .ok (.getfield 10, 3) := by decide +kernel
theorem dX6_lessonsFor_55 : decode cX6_lessonsFor 55 = .ok (.getfield 74, 3) := by decide +kernel
theorem dX6_lessonsFor_58 : decode cX6_lessonsFor 58 = .ok (.aload_n 0, 1) := by decide +kernel
theorem dX6_lessonsFor_59 : decode cX6_lessonsFor 59 = .ok (.getfield 41, 3) := by decide +kernel
theorem dX6_lessonsFor_62 : decode cX6_lessonsFor 62 = .ok (.iload_n 2, 1) := by decide +kernel
theorem dX6_lessonsFor_63 : decode cX6_lessonsFor 63 = .ok (.invokevirtual 198, 3) := by decide +kernel
theorem dX6_lessonsFor_66 : decode cX6_lessonsFor 66 = .ok (.ifCond .eq 5, 3) := by decide +kernel
theorem dX6_lessonsFor_69 : decode cX6_lessonsFor 69 = .ok (.iload_n 3, 1) := by decide +kernel
theorem dX6_lessonsFor_70 : decode cX6_lessonsFor 70 = .ok (.ireturn, 1) := by decide +kernel
theorem dX6_lessonsFor_71 : decode cX6_lessonsFor 71 = .ok (.aload_n 0, 1) := by decide +kernel
theorem dX6_lessonsFor_72 : decode cX6_lessonsFor 72 = .ok (.getfield 41, 3) := by decide +kernel
theorem dX6_lessonsFor_75 : decode cX6_lessonsFor 75 = .ok (.bipush (-6), 2) := by decide +kernel
theorem dX6_lessonsFor_77 : decode cX6_lessonsFor 77 = .ok (.putfield 120, 3) := by decide +kernel
theorem dX6_lessonsFor_80 : decode cX6_lessonsFor 80 = .ok (.aload_n 0, 1) := by decide +kernel
theorem dX6_lessonsFor_81 : decode cX6_lessonsFor 81 = .ok (.getfield 10, 3) := by decide +kernel
theorem dX6_lessonsFor_84 : decode cX6_lessonsFor 84 = .ok (.aload_n 0, 1) := by decide +kernel
theorem dX6_lessonsFor_85 : decode cX6_lessonsFor 85 = .ok (.getfield 41, 3) := by decide +kernel
theorem dX6_lessonsFor_88 : decode cX6_lessonsFor 88 = .ok (.iload_n 2, 1) := by decide +kernel
theorem dX6_lessonsFor_89 : decode cX6_lessonsFor 89 = .ok (.invokevirtual 202, 3) := by decide +kernel
theorem dX6_lessonsFor_92 : decode cX6_lessonsFor 92 = .ok (.iinc 3 1, 3) := by decide +kernel
theorem dX6_lessonsFor_95 : decode cX6_lessonsFor 95 = .ok (.goto (-50), 3) := by decide +kernel
theorem dX6_lessonsFor_98 : decode cX6_lessonsFor 98 = .ok (.bipush (-6), 2) := by decide +kernel
theorem dX6_lessonsFor_100 : decode cX6_lessonsFor 100 = .ok (.ireturn, 1) := by decide +kernel
theorem dX6_bestLesson_0 : decode cX6_bestLesson 0 = .ok (.aload_n 0, 1) := by decide +kernel
theorem dX6_bestLesson_1 : decode cX6_bestLesson 1 = .ok (.getfield 10, 3) := by decide +kernel
theorem dX6_bestLesson_4 : decode cX6_bestLesson 4 = .ok (.iload_n 1, 1) := by decide +kernel
theorem dX6_bestLesson_5 : decode cX6_bestLesson 5 = .ok (.invokevirtual 106, 3) := by decide +kernel
theorem dX6_bestLesson_8 : decode cX6_bestLesson 8 = .ok (.ifCond .ne 5, 3) := by decide +kernel
theorem dX6_bestLesson_11 : decode cX6_bestLesson 11 = .ok (.iconst (-1), 1) := by decide +kernel
theorem dX6_bestLesson_12 : decode cX6_bestLesson 12 = .ok (.ireturn, 1) := by decide +kernel
theorem dX6_bestLesson_13 : decode cX6_bestLesson 13 = .ok (.iload_n 2, 1) := by decide +kernel
theorem dX6_bestLesson_14 : decode cX6_bestLesson 14 = .ok (.ifCond .eq 11, 3) := by decide +kernel
theorem dX6_bestLesson_17 : decode cX6_bestLesson 17 = .ok (.iload_n 2, 1) := by decide +kernel
theorem dX6_bestLesson_18 : decode cX6_bestLesson 18 = .ok (.iconst 1, 1) := by decide +kernel
theorem dX6_bestLesson_19 : decode cX6_bestLesson 19 = .ok (.if_icmp .eq 6, 3) := by decide +kernel
theorem dX6_bestLesson_22 : decode cX6_bestLesson 22 = .ok (.bipush (-2), 2) := by decide +kernel
theorem dX6_bestLesson_24 : decode cX6_bestLesson 24 = .ok (.ireturn, 1) := by decide +kernel
theorem dX6_bestLesson_25 : decode cX6_bestLesson 25 = .ok (.aload_n 0, 1) := by decide +kernel
theorem dX6_bestLesson_26 : decode cX6_bestLesson 26 = .ok (.getfield 10, 3) := by decide +kernel
theorem dX6_bestLesson_29 : decode cX6_bestLesson 29 = .ok (.getfield 109, 3) := by decide +kernel
theorem dX6_bestLesson_32 : decode cX6_bestLesson 32 = .ok (.iload_n 1, 1) := by decide +kernel
theorem dX6_bestLesson_33 : decode cX6_bestLesson 33 = .ok (.aaload, 1) := by decide +kernel
theorem dX6_bestLesson_34 : decode cX6_bestLesson 34 = .ok (.astore_n 3, 1) := by decide +kernel
theorem dX6_bestLesson_35 : decode cX6_bestLesson 35 = .ok (.bipush (-6), 2) := by decide +kernel
theorem dX6_bestLesson_37 : decode cX6_bestLesson 37 = .ok (.istore 4, 2) := by decide +kernel
theorem dX6_bestLesson_39 : decode cX6_bestLesson 39 = .ok (.aload_n 0, 1) := by decide +kernel
theorem dX6_bestLesson_40 : decode cX6_bestLesson 40 = .ok (.getfield 10, 3) := by decide +kernel
theorem dX6_bestLesson_43 : decode cX6_bestLesson 43 = .ok (.getfield 74, 3) := by decide +kernel
theorem dX6_bestLesson_46 : decode cX6_bestLesson 46 = .ok (.aload_n 3, 1) := by decide +kernel
theorem dX6_bestLesson_47 : decode cX6_bestLesson 47 = .ok (.invokevirtual 206, 3) := by decide +kernel
theorem dX6_bestLesson_50 : decode cX6_bestLesson 50 = .ok (.istore 5, 2) := by decide +kernel
theorem dX6_bestLesson_52 : decode cX6_bestLesson 52 = .ok (.iconst 0, 1) := by decide +kernel
theorem dX6_bestLesson_53 : decode cX6_bestLesson 53 = .ok (.istore 6, 2) := by decide +kernel
theorem dX6_bestLesson_55 : decode cX6_bestLesson 55 = .ok (.iload 6, 2) := by decide +kernel
theorem dX6_bestLesson_57 : decode cX6_bestLesson 57 = .ok (.aload_n 0, 1) := by decide +kernel
theorem dX6_bestLesson_58 : decode cX6_bestLesson 58 = .ok (.getfield 10, 3) := by decide +kernel
theorem dX6_bestLesson_61 : decode cX6_bestLesson 61 = .ok (.getfield 74, 3) := by decide +kernel
theorem dX6_bestLesson_64 : decode cX6_bestLesson 64 = .ok (.getfield 161, 3) := by decide +kernel
theorem dX6_bestLesson_67 : decode cX6_bestLesson 67 = .ok (.if_icmp .ge 61, 3) := by decide +kernel
theorem dX6_bestLesson_70 : decode cX6_bestLesson 70 = .ok (.aload_n 0, 1) := by decide +kernel
theorem dX6_bestLesson_71 : decode cX6_bestLesson 71 = .ok (.getfield 41, 3) := by decide +kernel
theorem dX6_bestLesson_74 : decode cX6_bestLesson 74 = .ok (.aload_n 3, 1) := by decide +kernel
theorem dX6_bestLesson_75 : decode cX6_bestLesson 75 = .ok (.invokevirtual 194, 3) := by decide +kernel
theorem dX6_bestLesson_78 : decode cX6_bestLesson 78 = .ok (.aload_n 0, 1) := by decide +kernel
theorem dX6_bestLesson_79 : decode cX6_bestLesson 79 = .ok (.getfield 10, 3) := by decide +kernel
theorem dX6_bestLesson_82 : decode cX6_bestLesson 82 = .ok (.aload_n 0, 1) := by decide +kernel
theorem dX6_bestLesson_83 : decode cX6_bestLesson 83 = .ok (.getfield 41, 3) := by decide +kernel
theorem dX6_bestLesson_86 : decode cX6_bestLesson 86 = .ok (.iload 6, 2) := by decide +kernel
theorem dX6_bestLesson_88 : decode cX6_bestLesson 88 = .ok (.invokevirtual 202, 3) := by decide +kernel
theorem dX6_bestLesson_91 : decode cX6_bestLesson 91 = .ok (.aload_n 0, 1) := by decide +kernel
theorem dX6_bestLesson_92 : decode cX6_bestLesson 92 = .ok (.getfield 10, 3) := by decide +kernel
theorem dX6_bestLesson_95 : decode cX6_bestLesson 95 = .ok (.getfield 74, 3) := by decide +kernel
theorem dX6_bestLesson_98 : decode cX6_bestLesson 98 = .ok (.aload_n 0, 1) := by decide +kernel
theorem dX6_bestLesson_99 : decode cX6_bestLesson 99 = .ok (.getfield 41, 3) := by decide +kernel
theorem dX6_bestLesson_102 : decode cX6_bestLesson 102 = .ok (.invokevirtual 206, 3) := by decide +kernel
theorem dX6_bestLesson_105 : decode cX6_bestLesson 105 = .ok (.istore 7, 2) := by decide +kernel
theorem dX6_bestLesson_107 : decode cX6_bestLesson 107 = .ok (.iload 7, 2) := by decide +kernel
theorem dX6_bestLesson_109 : decode cX6_bestLesson 109 = .ok (.iload 5, 2) := by decide +kernel
theorem dX6_bestLesson_111 : decode cX6_bestLesson 111 = .ok (.if_icmp .le 11, 3) := by decide +kernel
theorem dX6_bestLesson_114 : decode cX6_bestLesson 114 = .ok (.iload 6, 2) := by decide +kernel
theorem dX6_bestLesson_116 : decode cX6_bestLesson 116 = .ok (.istore 4, 2) := by decide +kernel
theorem dX6_bestLesson_118 : decode cX6_bestLesson 118 = .ok (.iload 7, 2) := by decide +kernel
theorem dX6_bestLesson_120 : decode cX6_bestLesson 120 = .ok (.istore 5, 2) := by decide +kernel
theorem dX6_bestLesson_122 : decode cX6_bestLesson 122 = .ok (.iinc 6 1, 3) := by decide +kernel
theorem dX6_bestLesson_125 : decode cX6_bestLesson 125 = .ok (.goto (-70), 3) := by decide +kernel
theorem dX6_bestLesson_128 : decode cX6_bestLesson 128 = .ok (.iload 4, 2) := by decide +kernel
theorem dX6_bestLesson_130 : decode cX6_bestLesson 130 = .ok (.bipush (-6), 2) := by decide +kernel
theorem dX6_bestLesson_132 : decode cX6_bestLesson 132 = .ok (.if_icmp .ne 6, 3) := by decide +kernel
theorem dX6_bestLesson_135 : decode cX6_bestLesson 135 = .ok (.bipush (-6), 2) := by decide +kernel
theorem dX6_bestLesson_137 : decode cX6_bestLesson 137 = .ok (.ireturn, 1) := by decide +kernel
theorem dX6_bestLesson_138 : decode cX6_bestLesson 138 = .ok (.iload_n 2, 1) := by decide +kernel
theorem dX6_bestLesson_139 : decode cX6_bestLesson 139 = .ok (.ifCond .ne 8, 3) := by decide +kernel
theorem dX6_bestLesson_142 : decode cX6_bestLesson 142 = .ok (.iload 4, 2) := by decide +kernel
theorem dX6_bestLesson_144 : decode cX6_bestLesson 144 = .ok (.goto 5, 3) := by decide +kernel
theorem dX6_bestLesson_147 : decode cX6_bestLesson 147 = .ok (.iload 5, 2) := by decide +kernel
theorem dX6_bestLesson_149 : decode cX6_bestLesson 149 = .ok (.ireturn, 1) := by decide +kernel
theorem dX6_keeps_0 : decode cX6_keeps 0 = .ok (.aload_n 0, 1) := by decide +kernel
theorem dX6_keeps_1 : decode cX6_keeps 1 = .ok (.getfield 10, 3) := by decide +kernel
theorem dX6_keeps_4 : decode cX6_keeps 4 = .ok (.iload_n 1, 1) := by decide +kernel
theorem dX6_keeps_5 : decode cX6_keeps 5 = .ok (.invokevirtual 106, 3) := by decide +kernel
theorem dX6_keeps_8 : decode cX6_keeps 8 = .ok (.ifCond .eq 17, 3) := by decide +kernel
theorem dX6_keeps_11 : decode cX6_keeps 11 = .ok (.aload_n 0, 1) := by decide +kernel
theorem dX6_keeps_12 : decode cX6_keeps 12 = .ok (.getfield 10, 3) := by decide +kernel
theorem dX6_keeps_15 : decode cX6_keeps 15 = .ok (.getfield 74, 3) := by decide +kernel
theorem dX6_keeps_18 : decode cX6_keeps 18 = .ok (.iload_n 2, 1) := by decide +kernel
theorem dX6_keeps_19 : decode cX6_keeps 19 = .ok (.invokevirtual 78, 3) := by decide +kernel
theorem dX6_keeps_22 : decode cX6_keeps 22 = .ok (.ifCond .ne 5, 3) := by decide +kernel
theorem dX6_keeps_25 : decode cX6_keeps 25 = .ok (.iconst (-1), 1) := by decide +kernel
theorem dX6_keeps_26 : decode cX6_keeps 26 = .ok (.ireturn, 1) := by decide +kernel
theorem dX6_keeps_27 : decode cX6_keeps 27 = .ok (.aload_n 0, 1) := by decide +kernel
theorem dX6_keeps_28 : decode cX6_keeps 28 = .ok (.getfield 41, 3) := by decide +kernel
theorem dX6_keeps_31 : decode cX6_keeps 31 = .ok (.aload_n 0, 1) := by decide +kernel
theorem dX6_keeps_32 : decode cX6_keeps 32 = .ok (.getfield 10, 3) := by decide +kernel
theorem dX6_keeps_35 : decode cX6_keeps 35 = .ok (.getfield 109, 3) := by decide +kernel
theorem dX6_keeps_38 : decode cX6_keeps 38 = .ok (.iload_n 1, 1) := by decide +kernel
theorem dX6_keeps_39 : decode cX6_keeps 39 = .ok (.aaload, 1) := by decide +kernel
theorem dX6_keeps_40 : decode cX6_keeps 40 = .ok (.invokevirtual 194, 3) := by decide +kernel
theorem dX6_keeps_43 : decode cX6_keeps 43 = .ok (.iconst 0, 1) := by decide +kernel
theorem dX6_keeps_44 : decode cX6_keeps 44 = .ok (.istore_n 3, 1) := by decide +kernel
theorem dX6_keeps_45 : decode cX6_keeps 45 = .ok (.iload_n 3, 1) := by decide +kernel
theorem dX6_keeps_46 : decode cX6_keeps 46 = .ok (.bipush 30, 2) := by decide +kernel
theorem dX6_keeps_48 : decode cX6_keeps 48 = .ok (.if_icmp .gt 46, 3) := by decide +kernel
theorem dX6_keeps_51 : decode cX6_keeps 51 = .ok (.aload_n 0, 1) := by decide +kernel
theorem dX6_keeps_52 : decode cX6_keeps 52 = .ok (.getfield 10, 3) := by decide +kernel
theorem dX6_keeps_55 : decode cX6_keeps 55 = .ok (.getfield 74, 3) := by decide +kernel
theorem dX6_keeps_58 : decode cX6_keeps 58 = .ok (.aload_n 0, 1) := by decide +kernel
theorem dX6_keeps_59 : decode cX6_keeps 59 = .ok (.getfield 41, 3) := by decide +kernel
theorem dX6_keeps_62 : decode cX6_keeps 62 = .ok (.iload_n 2, 1) := by decide +kernel
theorem dX6_keeps_63 : decode cX6_keeps 63 = .ok (.invokevirtual 198, 3) := by decide +kernel
theorem dX6_keeps_66 : decode cX6_keeps 66 = .ok (.ifCond .ne 5, 3) := by decide +kernel
theorem dX6_keeps_69 : decode cX6_keeps 69 = .ok (.iload_n 3, 1) := by decide +kernel
theorem dX6_keeps_70 : decode cX6_keeps 70 = .ok (.ireturn, 1) := by decide +kernel
theorem dX6_keeps_71 : decode cX6_keeps 71 = .ok (.aload_n 0, 1) := by decide +kernel
theorem dX6_keeps_72 : decode cX6_keeps 72 = .ok (.getfield 41, 3) := by decide +kernel
theorem dX6_keeps_75 : decode cX6_keeps 75 = .ok (.aload_n 0, 1) := by decide +kernel
theorem dX6_keeps_76 : decode cX6_keeps 76 = .ok (.getfield 10, 3) := by decide +kernel
theorem dX6_keeps_79 : decode cX6_keeps 79 = .ok (.getfield 180, 3) := by decide +kernel
theorem dX6_keeps_82 : decode cX6_keeps 82 = .ok (.iconst 1, 1) := by decide +kernel
theorem dX6_keeps_83 : decode cX6_keeps 83 = .ok (.iaload, 1) := by decide +kernel
theorem dX6_keeps_84 : decode cX6_keeps 84 = .ok (.invokevirtual 209, 3) := by decide +kernel
theorem dX6_keeps_87 : decode cX6_keeps 87 = .ok (.pop, 1) := by decide +kernel
theorem dX6_keeps_88 : decode cX6_keeps 88 = .ok (.iinc 3 1, 3) := by decide +kernel
theorem dX6_keeps_91 : decode cX6_keeps 91 = .ok (.goto (-46), 3) := by decide +kernel
theorem dX6_keeps_94 : decode cX6_keeps 94 = .ok (.bipush (-6), 2) := by decide +kernel
theorem dX6_keeps_96 : decode cX6_keeps 96 = .ok (.ireturn, 1) := by decide +kernel
theorem dX6_put_0 : decode cX6_put 0 = .ok (.aload_n 0, 1) := by decide +kernel
theorem dX6_put_1 : decode cX6_put 1 = .ok (.getfield 26, 3) := by decide +kernel
theorem dX6_put_4 : decode cX6_put 4 = .ok (.getfield 184, 3) := by decide +kernel
theorem dX6_put_7 : decode cX6_put 7 = .ok (.lload_n 1, 1) := by decide +kernel
theorem dX6_put_8 : decode cX6_put 8 = .ok (.invokevirtual 212, 3) := by decide +kernel
theorem dX6_put_11 : decode cX6_put 11 = .ok (.ireturn, 1) := by decide +kernel
theorem dX6_wipe_0 : decode cX6_wipe 0 = .ok (.aload_n 0, 1) := by decide +kernel
theorem dX6_wipe_1 : decode cX6_wipe 1 = .ok (.getfield 26, 3) := by decide +kernel
theorem dX6_wipe_4 : decode cX6_wipe 4 = .ok (.getfield 184, 3) := by decide +kernel
theorem dX6_wipe_7 : decode cX6_wipe 7 = .ok (.getfield 188, 3) := by decide +kernel
theorem dX6_wipe_10 : decode cX6_wipe 10 = .ok (.istore_n 1, 1) := by decide +kernel
theorem dX6_wipe_11 : decode cX6_wipe 11 = .ok (.aload_n 0, 1) := by decide +kernel
theorem dX6_wipe_12 : decode cX6_wipe 12 = .ok (.getfield 26, 3) := by decide +kernel
theorem dX6_wipe_15 : decode cX6_wipe 15 = .ok (.getfield 184, 3) := by decide +kernel
theorem dX6_wipe_18 : decode cX6_wipe 18 = .ok (.iconst 0, 1) := by decide +kernel
theorem dX6_wipe_19 : decode cX6_wipe 19 = .ok (.putfield 188, 3) := by decide +kernel
theorem dX6_wipe_22 : decode cX6_wipe 22 = .ok (.iload_n 1, 1) := by decide +kernel
theorem dX6_wipe_23 : decode cX6_wipe 23 = .ok (.ireturn, 1) := by decide +kernel
theorem dX6_fault_0 : decode cX6_fault 0 = .ok (.aload_n 0, 1) := by decide +kernel
theorem dX6_fault_1 : decode cX6_fault 1 = .ok (.getfield 26, 3) := by decide +kernel
theorem dX6_fault_4 : decode cX6_fault 4 = .ok (.invokevirtual 216, 3) := by decide +kernel
theorem dX6_fault_7 : decode cX6_fault 7 = .ok (.ireturn, 1) := by decide +kernel
theorem dX6_carryOut_0 : decode cX6_carryOut 0 = .ok (.aload_n 0, 1) := by decide +kernel
theorem dX6_carryOut_1 : decode cX6_carryOut 1 = .ok (.getfield 26, 3) := by decide +kernel
theorem dX6_carryOut_4 : decode cX6_carryOut 4 = .ok (.invokevirtual 216, 3) := by decide +kernel
theorem dX6_carryOut_7 : decode cX6_carryOut 7 = .ok (.bipush (-6), 2) := by decide +kernel
theorem dX6_carryOut_9 : decode cX6_carryOut 9 = .ok (.if_icmp .eq 6, 3) := by decide +kernel
theorem dX6_carryOut_12 : decode cX6_carryOut 12 = .ok (.bipush (-3), 2) := by decide +kernel
theorem dX6_carryOut_14 : decode cX6_carryOut 14 = .ok (.ireturn, 1) := by decide +kernel
theorem dX6_carryOut_15 : decode cX6_carryOut 15 = .ok (.aload_n 0, 1) := by decide +kernel
theorem dX6_carryOut_16 : decode cX6_carryOut 16 = .ok (.getfield 19, 3) := by decide +kernel
theorem dX6_carryOut_19 : decode cX6_carryOut 19 = .ok (.aload_n 0, 1) := by decide +kernel
theorem dX6_carryOut_20 : decode cX6_carryOut 20 = .ok (.getfield 10, 3) := by decide +kernel
theorem dX6_carryOut_23 : decode cX6_carryOut 23 = .ok (.invokevirtual 45, 3) := by decide +kernel
theorem dX6_carryOut_26 : decode cX6_carryOut 26 = .ok (.iconst 0, 1) := by decide +kernel
theorem dX6_carryOut_27 : decode cX6_carryOut 27 = .ok (.istore_n 1, 1) := by decide +kernel
theorem dX6_carryOut_28 : decode cX6_carryOut 28 = .ok (.aload_n 0, 1) := by decide +kernel
theorem dX6_carryOut_29 : decode cX6_carryOut 29 = .ok (.getfield 26, 3) := by decide +kernel
theorem dX6_carryOut_32 : decode cX6_carryOut 32 = .ok (.invokevirtual 219, 3) := by decide +kernel
theorem dX6_carryOut_35 : decode cX6_carryOut 35 = .ok (.iload_n 1, 1) := by decide +kernel
theorem dX6_carryOut_36 : decode cX6_carryOut 36 = .ok (.bipush 80, 2) := by decide +kernel
theorem dX6_carryOut_38 : decode cX6_carryOut 38 = .ok (.if_icmp .ge 29, 3) := by decide +kernel
theorem dX6_carryOut_41 : decode cX6_carryOut 41 = .ok (.aload_n 0, 1) := by decide +kernel
theorem dX6_carryOut_42 : decode cX6_carryOut 42 = .ok (.getfield 26, 3) := by decide +kernel
theorem dX6_carryOut_45 : decode cX6_carryOut 45 = .ok (.invokevirtual 222, 3) := by decide +kernel
theorem dX6_carryOut_48 : decode cX6_carryOut 48 = .ok (.ifCond .eq 19, 3) := by decide +kernel
theorem dX6_carryOut_51 : decode cX6_carryOut 51 = .ok (.aload_n 0, 1) := by decide +kernel
theorem dX6_carryOut_52 : decode cX6_carryOut 52 = .ok (.invokevirtual 226, 3) := by decide +kernel
theorem dX6_carryOut_55 : decode cX6_carryOut 55 = .ok (.invokestatic 229, 3) := by decide +kernel
theorem dX6_carryOut_58 : decode cX6_carryOut 58 = .ok (.ifCond .ne 9, 3) := by decide +kernel
theorem dX6_carryOut_61 : decode cX6_carryOut 61 = .ok (.iinc 1 1, 3) := by decide +kernel
theorem dX6_carryOut_64 : decode cX6_carryOut 64 = .ok (.goto (-29), 3) := by decide +kernel
theorem dX6_carryOut_67 : decode cX6_carryOut 67 = .ok (.aload_n 0, 1) := by decide +kernel
theorem dX6_carryOut_68 : decode cX6_carryOut 68 = .ok (.getfield 26, 3) := by decide +kernel
theorem dX6_carryOut_71 : decode cX6_carryOut 71 = .ok (.getfield 184, 3) := by decide +kernel
theorem dX6_carryOut_74 : decode cX6_carryOut 74 = .ok (.iconst 0, 1) := by decide +kernel
theorem dX6_carryOut_75 : decode cX6_carryOut 75 = .ok (.putfield 188, 3) := by decide +kernel
theorem dX6_carryOut_78 : decode cX6_carryOut 78 = .ok (.aload_n 0, 1) := by decide +kernel
theorem dX6_carryOut_79 : decode cX6_carryOut 79 = .ok (.getfield 19, 3) := by decide +kernel
theorem dX6_carryOut_82 : decode cX6_carryOut 82 = .ok (.iload_n 1, 1) := by decide +kernel
theorem dX6_carryOut_83 : decode cX6_carryOut 83 = .ok (.invokevirtual 53, 3) := by decide +kernel
theorem dX6_carryOut_86 : decode cX6_carryOut 86 = .ok (.ireturn, 1) := by decide +kernel
theorem dX6_undo_0 : decode cX6_undo 0 = .ok (.aload_n 0, 1) := by decide +kernel
theorem dX6_undo_1 : decode cX6_undo 1 = .ok (.getfield 19, 3) := by decide +kernel
theorem dX6_undo_4 : decode cX6_undo 4 = .ok (.getfield 193, 3) := by decide +kernel
theorem dX6_undo_7 : decode cX6_undo 7 = .ok (.ifCond .ne 6, 3) := by decide +kernel
theorem dX6_undo_10 : decode cX6_undo 10 = .ok (.bipush (-5), 2) := by decide +kernel
theorem dX6_undo_12 : decode cX6_undo 12 = .ok (.ireturn, 1) := by decide +kernel
theorem dX6_undo_13 : decode cX6_undo 13 = .ok (.aload_n 0, 1) := by decide +kernel
theorem dX6_undo_14 : decode cX6_undo 14 = .ok (.getfield 19, 3) := by decide +kernel
theorem dX6_undo_17 : decode cX6_undo 17 = .ok (.aload_n 0, 1) := by decide +kernel
theorem dX6_undo_18 : decode cX6_undo 18 = .ok (.getfield 10, 3) := by decide +kernel
theorem dX6_undo_21 : decode cX6_undo 21 = .ok (.invokevirtual 232, 3) := by decide +kernel
theorem dX6_undo_24 : decode cX6_undo 24 = .ok (.ireturn, 1) := by decide +kernel
theorem dX6_save_0 : decode cX6_save 0 = .ok (.iload_n 1, 1) := by decide +kernel
theorem dX6_save_1 : decode cX6_save 1 = .ok (.ifCond .lt 8, 3) := by decide +kernel
theorem dX6_save_4 : decode cX6_save 4 = .ok (.iload_n 1, 1) := by decide +kernel
theorem dX6_save_5 : decode cX6_save 5 = .ok (.iconst 2, 1) := by decide +kernel
theorem dX6_save_6 : decode cX6_save 6 = .ok (.if_icmp .lt 6, 3) := by decide +kernel
theorem dX6_save_9 : decode cX6_save 9 = .ok (.bipush (-2), 2) := by decide +kernel
theorem dX6_save_11 : decode cX6_save 11 = .ok (.ireturn, 1) := by decide +kernel
theorem dX6_save_12 : decode cX6_save 12 = .ok (.aload_n 0, 1) := by decide +kernel
theorem dX6_save_13 : decode cX6_save 13 = .ok (.getfield 30, 3) := by decide +kernel
theorem dX6_save_16 : decode cX6_save 16 = .ok (.iload_n 1, 1) := by decide +kernel
theorem dX6_save_17 : decode cX6_save 17 = .ok (.aaload, 1) := by decide +kernel
theorem dX6_save_18 : decode cX6_save 18 = .ok (.aload_n 0, 1) := by decide +kernel
theorem dX6_save_19 : decode cX6_save 19 = .ok (.getfield 10, 3) := by decide +kernel
theorem dX6_save_22 : decode cX6_save 22 = .ok (.invokevirtual 236, 3) := by decide +kernel
theorem dX6_save_25 : decode cX6_save 25 = .ok (.aload_n 0, 1) := by decide +kernel
theorem dX6_save_26 : decode cX6_save 26 = .ok (.getfield 34, 3) := by decide +kernel
theorem dX6_save_29 : decode cX6_save 29 = .ok (.iload_n 1, 1) := by decide +kernel
theorem dX6_save_30 : decode cX6_save 30 = .ok (.iconst 1, 1) := by decide +kernel
theorem dX6_save_31 : decode cX6_save 31 = .ok (.bastore, 1) := by decide +kernel
theorem dX6_save_32 : decode cX6_save 32 = .ok (.aload_n 0, 1) := by decide +kernel
theorem dX6_save_33 : decode cX6_save 33 = .ok (.getfield 10, 3) := by decide +kernel
theorem dX6_save_36 : decode cX6_save 36 = .ok (.getfield 74, 3) := by decide +kernel
theorem dX6_save_39 : decode cX6_save 39 = .ok (.getfield 161, 3) := by decide +kernel
theorem dX6_save_42 : decode cX6_save 42 = .ok (.ireturn, 1) := by decide +kernel
theorem dX6_restore_0 : decode cX6_restore 0 = .ok (.iload_n 1, 1) := by decide +kernel
theorem dX6_restore_1 : decode cX6_restore 1 = .ok (.ifCond .lt 8, 3) := by decide +kernel
theorem dX6_restore_4 : decode cX6_restore 4 = .ok (.iload_n 1, 1) := by decide +kernel
theorem dX6_restore_5 : decode cX6_restore 5 = .ok (.iconst 2, 1) := by decide +kernel
theorem dX6_restore_6 : decode cX6_restore 6 = .ok (.if_icmp .lt 6, 3) := by decide +kernel
theorem dX6_restore_9 : decode cX6_restore 9 = .ok (.bipush (-2), 2) := by decide +kernel
theorem dX6_restore_11 : decode cX6_restore 11 = .ok (.ireturn, 1) := by decide +kernel
theorem dX6_restore_12 : decode cX6_restore 12 = .ok (.aload_n 0, 1) := by decide +kernel
theorem dX6_restore_13 : decode cX6_restore 13 = .ok (.getfield 34, 3) := by decide +kernel
theorem dX6_restore_16 : decode cX6_restore 16 = .ok (.iload_n 1, 1) := by decide +kernel
theorem dX6_restore_17 : decode cX6_restore 17 = .ok (.baload, 1) := by decide +kernel
theorem dX6_restore_18 : decode cX6_restore 18 = .ok (.ifCond .ne 6, 3) := by decide +kernel
theorem dX6_restore_21 : decode cX6_restore 21 = .ok (.bipush (-5), 2) := by decide +kernel
theorem dX6_restore_23 : decode cX6_restore 23 = .ok (.ireturn, 1) := by decide +kernel
theorem dX6_restore_24 : decode cX6_restore 24 = .ok (.aload_n 0, 1) := by decide +kernel
theorem dX6_restore_25 : decode cX6_restore 25 = .ok (.getfield 19, 3) := by decide +kernel
theorem dX6_restore_28 : decode cX6_restore 28 = .ok (.aload_n 0, 1) := by decide +kernel
theorem dX6_restore_29 : decode cX6_restore 29 = .ok (.getfield 10, 3) := by decide +kernel
theorem dX6_restore_32 : decode cX6_restore 32 = .ok (.invokevirtual 45, 3) := by decide +kernel
theorem dX6_restore_35 : decode cX6_restore 35 = .ok (.aload_n 0, 1) := by decide +kernel
theorem dX6_restore_36 : decode cX6_restore 36 = .ok (.getfield 10, 3) := by decide +kernel
theorem dX6_restore_39 : decode cX6_restore 39 = .ok (.aload_n 0, 1) := by decide +kernel
theorem dX6_restore_40 : decode cX6_restore 40 = .ok (.getfield 30, 3) := by decide +kernel
theorem dX6_restore_43 : decode cX6_restore 43 = .ok (.iload_n 1, 1) := by decide +kernel
theorem dX6_restore_44 : decode cX6_restore 44 = .ok (.aaload, 1) := by decide +kernel
theorem dX6_restore_45 : decode cX6_restore 45 = .ok (.invokevirtual 236, 3) := by decide +kernel
theorem dX6_restore_48 : decode cX6_restore 48 = .ok (.aload_n 0, 1) := by decide +kernel
theorem dX6_restore_49 : decode cX6_restore 49 = .ok (.getfield 19, 3) := by decide +kernel
theorem dX6_restore_52 : decode cX6_restore 52 = .ok (.aload_n 0, 1) := by decide +kernel
theorem dX6_restore_53 : decode cX6_restore 53 = .ok (.getfield 10, 3) := by decide +kernel
theorem dX6_restore_56 : decode cX6_restore 56 = .ok (.getfield 74, 3) := by decide +kernel
theorem dX6_restore_59 : decode cX6_restore 59 = .ok (.getfield 161, 3) := by decide +kernel
theorem dX6_restore_62 : decode cX6_restore 62 = .ok (.invokevirtual 53, 3) := by decide +kernel
theorem dX6_restore_65 : decode cX6_restore 65 = .ok (.ireturn, 1) := by decide +kernel
theorem dX6_isError_0 : decode cX6_isError 0 = .ok (.iload_n 0, 1) := by decide +kernel
theorem dX6_isError_1 : decode cX6_isError 1 = .ok (.iconst (-1), 1) := by decide +kernel
theorem dX6_isError_2 : decode cX6_isError 2 = .ok (.if_icmp .gt 13, 3) := by decide +kernel
theorem dX6_isError_5 : decode cX6_isError 5 = .ok (.iload_n 0, 1) := by decide +kernel
theorem dX6_isError_6 : decode cX6_isError 6 = .ok (.bipush (-5), 2) := by decide +kernel
theorem dX6_isError_8 : decode cX6_isError 8 = .ok (.if_icmp .lt 7, 3) := by decide +kernel
theorem dX6_isError_11 : decode cX6_isError 11 = .ok (.iconst 1, 1) := by decide +kernel
theorem dX6_isError_12 : decode cX6_isError 12 = .ok (.goto 4, 3) := by decide +kernel
theorem dX6_isError_15 : decode cX6_isError 15 = .ok (.iconst 0, 1) := by decide +kernel
theorem dX6_isError_16 : decode cX6_isError 16 = .ok (.ireturn, 1) := by decide +kernel
theorem dX6_carryOrder_0 : decode cX6_carryOrder 0 = .ok (.aload_n 0, 1) := by decide +kernel
theorem dX6_carryOrder_1 : decode cX6_carryOrder 1 = .ok (.getfield 26, 3) := by decide +kernel
theorem dX6_carryOrder_4 : decode cX6_carryOrder 4 = .ok (.getfield 238, 3) := by decide +kernel
theorem dX6_carryOrder_7 : decode cX6_carryOrder 7 = .ok (.tableswitch 192 66 83 #[110, 192, 192, 192, 192, 192, 147, 192, 192, 192, 118, 192, 184, 192, 162, 192, 192, 85], 85) := by decide +kernel
theorem dX6_carryOrder_92 : decode cX6_carryOrder 92 = .ok (.aload_n 0, 1) := by decide +kernel
theorem dX6_carryOrder_93 : decode cX6_carryOrder 93 = .ok (.getfield 10, 3) := by decide +kernel
theorem dX6_carryOrder_96 : decode cX6_carryOrder 96 = .ok (.getfield 74, 3) := by decide +kernel
theorem dX6_carryOrder_99 : decode cX6_carryOrder 99 = .ok (.aload_n 0, 1) := by decide +kernel
theorem dX6_carryOrder_100 : decode cX6_carryOrder 100 = .ok (.getfield 26, 3) := by decide +kernel
theorem dX6_carryOrder_103 : decode cX6_carryOrder 103 = .ok (.getfield 242, 3) := by decide +kernel
theorem dX6_carryOrder_106 : decode cX6_carryOrder 106 = .ok (.aload_n 0, 1) := by decide +kernel
theorem dX6_carryOrder_107 : decode cX6_carryOrder 107 = .ok (.getfield 26, 3) := by decide +kernel
theorem dX6_carryOrder_110 : decode cX6_carryOrder 110 = .ok (.getfield 245, 3) := by decide +kernel
theorem dX6_carryOrder_113 : decode cX6_carryOrder 113 = .ok (.invokevirtual 248, 3) := by decide +kernel
theorem dX6_carryOrder_116 : decode cX6_carryOrder 116 = .ok (.ireturn, 1) := by decide +kernel
theorem dX6_carryOrder_117 : decode cX6_carryOrder 117 = .ok (.aload_n 0, 1) := by decide +kernel
theorem dX6_carryOrder_118 : decode cX6_carryOrder 118 = .ok (.getfield 10, 3) := by decide +kernel
theorem dX6_carryOrder_121 : decode cX6_carryOrder 121 = .ok (.invokevirtual 57, 3) := by decide +kernel
theorem dX6_carryOrder_124 : decode cX6_carryOrder 124 = .ok (.ireturn, 1) := by decide +kernel
theorem dX6_carryOrder_125 : decode cX6_carryOrder 125 = .ok (.aload_n 0, 1) := by decide +kernel
theorem dX6_carryOrder_126 : decode cX6_carryOrder 126 = .ok (.getfield 10, 3) := by decide +kernel
theorem dX6_carryOrder_129 : decode cX6_carryOrder 129 = .ok (.aload_n 0, 1) := by decide +kernel
theorem dX6_carryOrder_130 : decode cX6_carryOrder 130 = .ok (.getfield 26, 3) := by decide +kernel
theorem dX6_carryOrder_133 : decode cX6_carryOrder 133 = .ok (.getfield 252, 3) := by decide +kernel
theorem dX6_carryOrder_136 : decode cX6_carryOrder 136 = .ok (.aload_n 0, 1) := by decide +kernel
theorem dX6_carryOrder_137 : decode cX6_carryOrder 137 = .ok (.getfield 26, 3) := by decide +kernel
theorem dX6_carryOrder_140 : decode cX6_carryOrder 140 = .ok (.getfield 255, 3) := by decide +kernel
theorem dX6_carryOrder_143 : decode cX6_carryOrder 143 = .ok (.aload_n 0, 1) := by decide +kernel
theorem dX6_carryOrder_144 : decode cX6_carryOrder 144 = .ok (.getfield 26, 3) := by decide +kernel
theorem dX6_carryOrder_147 : decode cX6_carryOrder 147 = .ok (.getfield 258, 3) := by decide +kernel
theorem dX6_carryOrder_150 : decode cX6_carryOrder 150 = .ok (.invokevirtual 61, 3) := by decide +kernel
theorem dX6_carryOrder_153 : decode cX6_carryOrder 153 = .ok (.ireturn, 1) := by decide +kernel
theorem dX6_carryOrder_154 : decode cX6_carryOrder 154 = .ok (.aload_n 0, 1) := by decide +kernel
theorem dX6_carryOrder_155 : decode cX6_carryOrder 155 = .ok (.getfield 10, 3) := by decide +kernel
theorem dX6_carryOrder_158 : decode cX6_carryOrder 158 = .ok (.aload_n 0, 1) := by decide +kernel
theorem dX6_carryOrder_159 : decode cX6_carryOrder 159 = .ok (.getfield 26, 3) := by decide +kernel
theorem dX6_carryOrder_162 : decode cX6_carryOrder 162 = .ok (.getfield 252, 3) := by decide +kernel
theorem dX6_carryOrder_165 : decode cX6_carryOrder 165 = .ok (.invokevirtual 65, 3) := by decide +kernel
theorem dX6_carryOrder_168 : decode cX6_carryOrder 168 = .ok (.ireturn, 1) := by decide +kernel
theorem dX6_carryOrder_169 : decode cX6_carryOrder 169 = .ok (.aload_n 0, 1) := by decide +kernel
theorem dX6_carryOrder_170 : decode cX6_carryOrder 170 = .ok (.getfield 10, 3) := by decide +kernel
theorem dX6_carryOrder_173 : decode cX6_carryOrder 173 = .ok (.aload_n 0, 1) := by decide +kernel
theorem dX6_carryOrder_174 : decode cX6_carryOrder 174 = .ok (.getfield 26, 3) := by decide +kernel
theorem dX6_carryOrder_177 : decode cX6_carryOrder 177 = .ok (.getfield 252, 3) := by decide +kernel
theorem dX6_carryOrder_180 : decode cX6_carryOrder 180 = .ok (.aload_n 0, 1) := by decide +kernel
theorem dX6_carryOrder_181 : decode cX6_carryOrder 181 = .ok (.getfield 26, 3) := by decide +kernel
theorem dX6_carryOrder_184 : decode cX6_carryOrder 184 = .ok (.getfield 258, 3) := by decide +kernel
theorem dX6_carryOrder_187 : decode cX6_carryOrder 187 = .ok (.invokevirtual 68, 3) := by decide +kernel
theorem dX6_carryOrder_190 : decode cX6_carryOrder 190 = .ok (.ireturn, 1) := by decide +kernel
theorem dX6_carryOrder_191 : decode cX6_carryOrder 191 = .ok (.aload_n 0, 1) := by decide +kernel
theorem dX6_carryOrder_192 : decode cX6_carryOrder 192 = .ok (.getfield 10, 3) := by decide +kernel
theorem dX6_carryOrder_195 : decode cX6_carryOrder 195 = .ok (.invokevirtual 71, 3) := by decide +kernel
theorem dX6_carryOrder_198 : decode cX6_carryOrder 198 = .ok (.ireturn, 1) := by decide +kernel
theorem dX6_carryOrder_199 : decode cX6_carryOrder 199 = .ok (.bipush (-3), 2) := by decide +kernel
theorem dX6_carryOrder_201 : decode cX6_carryOrder 201 = .ok (.ireturn, 1) := by decide +kernel
theorem dX7_init_0 : decode cX7_init 0 = .ok (.aload_n 0, 1) := by decide +kernel
theorem dX7_init_1 : decode cX7_init 1 = .ok (.invokespecial 1, 3) := by decide +kernel
theorem dX7_init_4 : decode cX7_init 4 = .ok (.aload_n 0, 1) := by decide +kernel
theorem dX7_init_5 : decode cX7_init 5 = .ok (.sipush 937, 3) := by decide +kernel
theorem dX7_init_8 : decode cX7_init 8 = .ok (.newarray .int, 2) := by decide +kernel
theorem dX7_init_10 : decode cX7_init 10 = .ok (.putfield 7, 3) := by decide +kernel
theorem dX7_init_13 : decode cX7_init 13 = .ok (.aload_n 0, 1) := by decide +kernel
theorem dX7_init_14 : decode cX7_init 14 = .ok (.sipush 937, 3) := by decide +kernel
theorem dX7_init_17 : decode cX7_init 17 = .ok (.newarray .int, 2) := by decide +kernel
theorem dX7_init_19 : decode cX7_init 19 = .ok (.putfield 13, 3) := by decide +kernel
theorem dX7_init_22 : decode cX7_init 22 = .ok (.aload_n 0, 1) := by decide +kernel
theorem dX7_init_23 : decode cX7_init 23 = .ok (.sipush 937, 3) := by decide +kernel
theorem dX7_init_26 : decode cX7_init 26 = .ok (.newarray .int, 2) := by decide +kernel
theorem dX7_init_28 : decode cX7_init 28 = .ok (.putfield 16, 3) := by decide +kernel
theorem dX7_init_31 : decode cX7_init 31 = .ok (.aload_n 0, 1) := by decide +kernel
theorem dX7_init_32 : decode cX7_init 32 = .ok (.sipush 5622, 3) := by decide +kernel
theorem dX7_init_35 : decode cX7_init 35 = .ok (.newarray .int, 2) := by decide +kernel
theorem dX7_init_37 : decode cX7_init 37 = .ok (.putfield 19, 3) := by decide +kernel
theorem dX7_init_40 : decode cX7_init 40 = .ok (.aload_n 0, 1) := by decide +kernel
theorem dX7_init_41 : decode cX7_init 41 = .ok (.sipush 1874, 3) := by decide +kernel
theorem dX7_init_44 : decode cX7_init 44 = .ok (.newarray .int, 2) := by decide +kernel
theorem dX7_init_46 : decode cX7_init 46 = .ok (.putfield 22, 3) := by decide +kernel
theorem dX7_init_49 : decode cX7_init 49 = .ok (.aload_n 0, 1) := by decide +kernel
theorem dX7_init_50 : decode cX7_init 50 = .ok (.iconst 2, 1) := by decide +kernel
theorem dX7_init_51 : decode cX7_init 51 = .ok (.newarray .boolean, 2) := by decide +kernel
theorem dX7_init_53 : decode cX7_init 53 = .ok (.putfield 25, 3) := by decide +kernel
theorem dX7_init_56 : decode cX7_init 56 = .ok (.aload_n 0, 1) := by decide +kernel
theorem dX7_init_57 : decode cX7_init 57 = .ok (.bipush 40, 2) := by decide +kernel
theorem dX7_init_59 : decode cX7_init 59 = .ok (.newarray .int, 2) := by decide +kernel
theorem dX7_init_61 : decode cX7_init 61 = .ok (.putfield 29, 3) := by decide +kernel
theorem dX7_init_64 : decode cX7_init 64 = .ok (.aload_n 0, 1) := by decide +kernel
theorem dX7_init_65 : decode cX7_init 65 = .ok (.sipush 164, 3) := by decide +kernel
theorem dX7_init_68 : decode cX7_init 68 = .ok (.newarray .int, 2) := by decide +kernel
theorem dX7_init_70 : decode cX7_init 70 = .ok (.putfield 32, 3) := by decide +kernel
theorem dX7_init_73 : decode cX7_init 73 = .ok (.aload_n 0, 1) := by decide +kernel
theorem dX7_init_74 : decode cX7_init 74 = .ok (.bipush 80, 2) := by decide +kernel
theorem dX7_init_76 : decode cX7_init 76 = .ok (.newarray .char, 2) := by decide +kernel
theorem dX7_init_78 : decode cX7_init 78 = .ok (.putfield 35, 3) := by decide +kernel
theorem dX7_init_81 : decode cX7_init 81 = .ok (.aload_n 0, 1) := by decide +kernel
theorem dX7_init_82 : decode cX7_init 82 = .ok (.getfield 7, 3) := by decide +kernel
theorem dX7_init_85 : decode cX7_init 85 = .ok (.iconst 0, 1) := by decide +kernel
theorem dX7_init_86 : decode cX7_init 86 = .ok (.bipush 24, 2) := by decide +kernel
theorem dX7_init_88 : decode cX7_init 88 = .ok (.iastore, 1) := by decide +kernel
theorem dX7_init_89 : decode cX7_init 89 = .ok (.aload_n 0, 1) := by decide +kernel
theorem dX7_init_90 : decode cX7_init 90 = .ok (.getfield 7, 3) := by decide +kernel
theorem dX7_init_93 : decode cX7_init 93 = .ok (.iconst 1, 1) := by decide +kernel
theorem dX7_init_94 : decode cX7_init 94 = .ok (.iconst 1, 1) := by decide +kernel
theorem dX7_init_95 : decode cX7_init 95 = .ok (.iastore, 1) := by decide +kernel
theorem dX7_init_96 : decode cX7_init 96 = .ok (.aload_n 0, 1) := by decide +kernel
theorem dX7_init_97 : decode cX7_init 97 = .ok (.getfield 7, 3) := by decide +kernel
theorem dX7_init_100 : decode cX7_init 100 = .ok (.iconst 2, 1) := by decide +kernel
theorem dX7_init_101 : decode cX7_init 101 = .ok (.iconst 1, 1) := by decide +kernel
theorem dX7_init_102 : decode cX7_init 102 = .ok (.iastore, 1) := by decide +kernel
theorem dX7_init_103 : decode cX7_init 103 = .ok (.aload_n 0, 1) := by decide +kernel
theorem dX7_init_104 : decode cX7_init 104 = .ok (.getfield 7, 3) := by decide +kernel
theorem dX7_init_107 : decode cX7_init 107 = .ok (.iconst 3, 1) := by decide +kernel
theorem dX7_init_108 : decode cX7_init 108 = .ok (.bipush 20, 2) := by decide +kernel
theorem dX7_init_110 : decode cX7_init 110 = .ok (.iastore, 1) := by decide +kernel
theorem dX7_init_111 : decode cX7_init 111 = .ok (.return_, 1) := by decide +kernel
theorem dX7_in_0 : decode cX7_in 0 = .ok (.iload_n 0, 1) := by decide +kernel
theorem dX7_in_1 : decode cX7_in 1 = .ok (.iload_n 1, 1) := by decide +kernel
theorem dX7_in_2 : decode cX7_in 2 = .ok (.if_icmp .lt 12, 3) := by decide +kernel
theorem dX7_in_5 : decode cX7_in 5 = .ok (.iload_n 0, 1) := by decide +kernel
theorem dX7_in_6 : decode cX7_in 6 = .ok (.iload_n 2, 1) := by decide +kernel
theorem dX7_in_7 : decode cX7_in 7 = .ok (.if_icmp .gt 7, 3) := by decide +kernel
theorem dX7_in_10 : decode cX7_in 10 = .ok (.iconst 1, 1) := by decide +kernel
theorem dX7_in_11 : decode cX7_in 11 = .ok (.goto 4, 3) := by decide +kernel
theorem dX7_in_14 : decode cX7_in 14 = .ok (.iconst 0, 1) := by decide +kernel
theorem dX7_in_15 : decode cX7_in 15 = .ok (.ireturn, 1) := by decide +kernel
theorem dX7_n_0 : decode cX7_n 0 = .ok (.bipush 9, 2) := by decide +kernel
theorem dX7_n_2 : decode cX7_n 2 = .ok (.bipush 22, 2) := by decide +kernel
theorem dX7_n_4 : decode cX7_n 4 = .ok (.iload_n 0, 1) := by decide +kernel
theorem dX7_n_5 : decode cX7_n 5 = .ok (.imul, 1) := by decide +kernel
theorem dX7_n_6 : decode cX7_n 6 = .ok (.iadd, 1) := by decide +kernel
theorem dX7_n_7 : decode cX7_n 7 = .ok (.ireturn, 1) := by decide +kernel
theorem dX7_p_0 : decode cX7_p 0 = .ok (.sipush 185, 3) := by decide +kernel
theorem dX7_p_3 : decode cX7_p 3 = .ok (.iconst 5, 1) := by decide +kernel
theorem dX7_p_4 : decode cX7_p 4 = .ok (.iload_n 0, 1) := by decide +kernel
theorem dX7_p_5 : decode cX7_p 5 = .ok (.imul, 1) := by decide +kernel
theorem dX7_p_6 : decode cX7_p 6 = .ok (.iadd, 1) := by decide +kernel
theorem dX7_p_7 : decode cX7_p 7 = .ok (.ireturn, 1) := by decide +kernel
theorem dX7_l_0 : decode cX7_l 0 = .ok (.sipush 205, 3) := by decide +kernel
theorem dX7_l_3 : decode cX7_l 3 = .ok (.sipush 183, 3) := by decide +kernel
theorem dX7_l_6 : decode cX7_l 6 = .ok (.iload_n 0, 1) := by decide +kernel
theorem dX7_l_7 : decode cX7_l 7 = .ok (.imul, 1) := by decide +kernel
theorem dX7_l_8 : decode cX7_l 8 = .ok (.iadd, 1) := by decide +kernel
theorem dX7_l_9 : decode cX7_l 9 = .ok (.iconst 3, 1) := by decide +kernel
theorem dX7_l_10 : decode cX7_l 10 = .ok (.iload_n 1, 1) := by decide +kernel
theorem dX7_l_11 : decode cX7_l 11 = .ok (.imul, 1) := by decide +kernel
theorem dX7_l_12 : decode cX7_l 12 = .ok (.iadd, 1) := by decide +kernel
theorem dX7_l_13 : decode cX7_l 13 = .ok (.ireturn, 1) := by decide +kernel
theorem dX7_isSong_0 : decode cX7_isSong 0 = .ok (.iload_n 1, 1) := by decide +kernel
theorem dX7_isSong_1 : decode cX7_isSong 1 = .ok (.iconst 0, 1) := by decide +kernel
theorem dX7_isSong_2 : decode cX7_isSong 2 = .ok (.aload_n 0, 1) := by decide +kernel
theorem dX7_isSong_3 : decode cX7_isSong 3 = .ok (.getfield 7, 3) := by decide +kernel
theorem dX7_isSong_6 : decode cX7_isSong 6 = .ok (.iconst 5, 1) := by decide +kernel
theorem dX7_isSong_7 : decode cX7_isSong 7 = .ok (.iaload, 1) := by decide +kernel
theorem dX7_isSong_8 : decode cX7_isSong 8 = .ok (.iconst 1, 1) := by decide +kernel
theorem dX7_isSong_9 : decode cX7_isSong 9 = .ok (.isub, 1) := by decide +kernel
theorem dX7_isSong_10 : decode cX7_isSong 10 = .ok (.invokestatic 39, 3) := by decide +kernel
theorem dX7_isSong_13 : decode cX7_isSong 13 = .ok (.ireturn, 1) := by decide +kernel
theorem dX7_isParrot_0 : decode cX7_isParrot 0 = .ok (.iload_n 1, 1) := by decide +kernel
theorem dX7_isParrot_1 : decode cX7_isParrot 1 = .ok (.iconst 0, 1) := by decide +kernel
theorem dX7_isParrot_2 : decode cX7_isParrot 2 = .ok (.aload_n 0, 1) := by decide +kernel
theorem dX7_isParrot_3 : decode cX7_isParrot 3 = .ok (.getfield 7, 3) := by decide +kernel
theorem dX7_isParrot_6 : decode cX7_isParrot 6 = .ok (.bipush 6, 2) := by decide +kernel
theorem dX7_isParrot_8 : decode cX7_isParrot 8 = .ok (.iaload, 1) := by decide +kernel
theorem dX7_isParrot_9 : decode cX7_isParrot 9 = .ok (.iconst 1, 1) := by decide +kernel
theorem dX7_isParrot_10 : decode cX7_isParrot 10 = .ok (.isub, 1) := by decide +kernel
theorem dX7_isParrot_11 : decode cX7_isParrot 11 = .ok (.invokestatic 39, 3) := by decide +kernel
theorem dX7_isParrot_14 : decode cX7_isParrot 14 = .ok (.ireturn, 1) := by decide +kernel
theorem dX7_hold_0 : decode cX7_hold 0 = .ok (.iconst 0, 1) := by decide +kernel
theorem dX7_hold_1 : decode cX7_hold 1 = .ok (.istore_n 1, 1) := by decide +kernel
theorem dX7_hold_2 : decode cX7_hold 2 = .ok (.iload_n 1, 1) := by decide +kernel
theorem dX7_hold_3 : decode cX7_hold 3 = .ok (.sipush 937, 3) := by decide +kernel
theorem dX7_hold_6 : decode cX7_hold 6 = .ok (.if_icmp .ge 21, 3) := by decide +kernel
theorem dX7_hold_9 : decode cX7_hold 9 = .ok (.aload_n 0, 1) := by decide +kernel
theorem dX7_hold_10 : decode cX7_hold 10 = .ok (.getfield 13, 3) := by decide +kernel
theorem dX7_hold_13 : decode cX7_hold 13 = .ok (.iload_n 1, 1) := by decide +kernel
theorem dX7_hold_14 : decode cX7_hold 14 = .ok (.aload_n 0, 1) := by decide +kernel
theorem dX7_hold_15 : decode cX7_hold 15 = .ok (.getfield 7, 3) := by decide +kernel
theorem dX7_hold_18 : decode cX7_hold 18 = .ok (.iload_n 1, 1) := by decide +kernel
theorem dX7_hold_19 : decode cX7_hold 19 = .ok (.iaload, 1) := by decide +kernel
theorem dX7_hold_20 : decode cX7_hold 20 = .ok (.iastore, 1) := by decide +kernel
theorem dX7_hold_21 : decode cX7_hold 21 = .ok (.iinc 1 1, 3) := by decide +kernel
theorem dX7_hold_24 : decode cX7_hold 24 = .ok (.goto (-22), 3) := by decide +kernel
theorem dX7_hold_27 : decode cX7_hold 27 = .ok (.return_, 1) := by decide +kernel
theorem dX7_recorded_0 : decode cX7_recorded 0 = .ok (.iload_n 1, 1) := by decide +kernel
theorem dX7_recorded_1 : decode cX7_recorded 1 = .ok (.ifCond .ge 9, 3) := by decide +kernel
theorem dX7_recorded_4 : decode cX7_recorded 4 = .ok (.iload_n 1, 1) := by decide +kernel
theorem dX7_recorded_5 : decode cX7_recorded 5 = .ok (.bipush (-6), 2) := by decide +kernel
theorem dX7_recorded_7 : decode cX7_recorded 7 = .ok (.if_icmp .ne 99, 3) := by decide +kernel
theorem dX7_recorded_10 : decode cX7_recorded 10 = .ok (.aload_n 0, 1) := by decide +kernel
theorem dX7_recorded_11 : decode cX7_recorded 11 = .ok (.getfield 43, 3) := by decide +kernel
theorem dX7_recorded_14 : decode cX7_recorded 14 = .ok (.bipush 6, 2) := by decide +kernel
theorem dX7_recorded_16 : decode cX7_recorded 16 = .ok (.if_icmp .ne 44, 3) := by decide +kernel
theorem dX7_recorded_19 : decode cX7_recorded 19 = .ok (.iconst 0, 1) := by decide +kernel
theorem dX7_recorded_20 : decode cX7_recorded 20 = .ok (.istore_n 2, 1) := by decide +kernel
theorem dX7_recorded_21 : decode cX7_recorded 21 = .ok (.iload_n 2, 1) := by decide +kernel
theorem dX7_recorded_22 : decode cX7_recorded 22 = .ok (.sipush 4685, 3) := by decide +kernel
theorem dX7_recorded_25 : decode cX7_recorded 25 = .ok (.if_icmp .ge 25, 3) := by decide +kernel
theorem dX7_recorded_28 : decode cX7_recorded 28 = .ok (.aload_n 0, 1) := by decide +kernel
theorem dX7_recorded_29 : decode cX7_recorded 29 = .ok (.getfield 19, 3) := by decide +kernel
theorem dX7_recorded_32 : decode cX7_recorded 32 = .ok (.iload_n 2, 1) := by decide +kernel
theorem dX7_recorded_33 : decode cX7_recorded 33 = .ok (.aload_n 0, 1) := by decide +kernel
theorem dX7_recorded_34 : decode cX7_recorded 34 = .ok (.getfield 19, 3) := by decide +kernel
theorem dX7_recorded_37 : decode cX7_recorded 37 = .ok (.sipush 937, 3) := by decide +kernel
theorem dX7_recorded_40 : decode cX7_recorded 40 = .ok (.iload_n 2, 1) := by decide +kernel
theorem dX7_recorded_41 : decode cX7_recorded 41 = .ok (.iadd, 1) := by decide +kernel
theorem dX7_recorded_42 : decode cX7_recorded 42 = .ok (.iaload, 1) := by decide +kernel
theorem dX7_recorded_43 : decode cX7_recorded 43 = .ok (.iastore, 1) := by decide +kernel
theorem dX7_recorded_44 : decode cX7_recorded 44 = .ok (.iinc 2 1, 3) := by decide +kernel
theorem dX7_recorded_47 : decode cX7_recorded 47 = .ok (.goto (-26), 3) := by decide +kernel
theorem dX7_recorded_50 : decode cX7_recorded 50 = .ok (.aload_n 0, 1) := by decide +kernel
theorem dX7_recorded_51 : decode cX7_recorded 51 = .ok (.dup, 1) := by decide +kernel
theorem dX7_recorded_52 : decode cX7_recorded 52 = .ok (.getfield 43, 3) := by decide +kernel
theorem dX7_recorded_55 : decode cX7_recorded 55 = .ok (.iconst 1, 1) := by decide +kernel
theorem dX7_recorded_56 : decode cX7_recorded 56 = .ok (.isub, 1) := by decide +kernel
theorem dX7_recorded_57 : decode cX7_recorded 57 = .ok (.putfield 43, 3) := by decide +kernel
theorem dX7_recorded_60 : decode cX7_recorded 60 = .ok (.iconst 0, 1) := by decide +kernel
theorem dX7_recorded_61 : decode cX7_recorded 61 = .ok (.istore_n 2, 1) := by decide +kernel
theorem dX7_recorded_62 : decode cX7_recorded 62 = .ok (.iload_n 2, 1) := by decide +kernel
theorem dX7_recorded_63 : decode cX7_recorded 63 = .ok (.sipush 937, 3) := by decide +kernel
theorem dX7_recorded_66 : decode cX7_recorded 66 = .ok (.if_icmp .ge 30, 3) := by decide +kernel
theorem dX7_recorded_69 : decode cX7_recorded 69 = .ok (.aload_n 0, 1) := by decide +kernel
theorem dX7_recorded_70 : decode cX7_recorded 70 = .ok (.getfield 19, 3) := by decide +kernel
theorem dX7_recorded_73 : decode cX7_recorded 73 = .ok (.sipush 937, 3) := by decide +kernel
theorem dX7_recorded_76 : decode cX7_recorded 76 = .ok (.aload_n 0, 1) := by decide +kernel
theorem dX7_recorded_77 : decode cX7_recorded 77 = .ok (.getfield 43, 3) := by decide +kernel
theorem dX7_recorded_80 : decode cX7_recorded 80 = .ok (.imul, 1) := by decide +kernel
theorem dX7_recorded_81 : decode cX7_recorded 81 = .ok (.iload_n 2, 1) := by decide +kernel
theorem dX7_recorded_82 : decode cX7_recorded 82 = .ok (.iadd, 1) := by decide +kernel
theorem dX7_recorded_83 : decode cX7_recorded 83 = .ok (.aload_n 0, 1) := by decide +kernel
theorem dX7_recorded_84 : decode cX7_recorded 84 = .ok (.getfield 13, 3) := by decide +kernel
theorem dX7_recorded_87 : decode cX7_recorded 87 = .ok (.iload_n 2, 1) := by decide +kernel
theorem dX7_recorded_88 : decode cX7_recorded 88 = .ok (.iaload, 1) := by decide +kernel
theorem dX7_recorded_89 : decode cX7_recorded 89 = .ok (.iastore, 1) := by decide +kernel
theorem dX7_recorded_90 : decode cX7_recorded 90 = .ok (.iinc 2 1, 3) := by decide +kernel
theorem dX7_recorded_93 : decode cX7_recorded 93 = .ok (.goto (-31), 3) := by decide +kernel
theorem dX7_recorded_96 : decode cX7_recorded 96 = .ok (.aload_n 0, 1) := by decide +kernel
theorem dX7_recorded_97 : decode cX7_recorded 97 = .ok (.dup, 1) := by decide +kernel
theorem dX7_recorded_98 : decode cX7_recorded 98 = .ok (.getfield 43, 3) := by decide +kernel
theorem dX7_recorded_101 : decode cX7_recorded 101 = .ok (.iconst 1, 1) := by decide +kernel
theorem dX7_recorded_102 : decode cX7_recorded 102 = .ok (.iadd, 1) := by decide +kernel
theorem dX7_recorded_103 : decode cX7_recorded 103 = .ok (.putfield 43, 3) := by decide +kernel
theorem dX7_recorded_106 : decode cX7_recorded 106 = .ok (.iload_n 1, 1) := by decide +kernel
theorem dX7_recorded_107 : decode cX7_recorded 107 = .ok (.ireturn, 1) := by decide +kernel
theorem dX7_keepTrial_0 : decode cX7_keepTrial 0 = .ok (.iconst 0, 1) := by decide +kernel
theorem dX7_keepTrial_1 : decode cX7_keepTrial 1 = .ok (.istore_n 1, 1) := by decide +kernel
theorem dX7_keepTrial_2 : decode cX7_keepTrial 2 = .ok (.iload_n 1, 1) := by decide +kernel
theorem dX7_keepTrial_3 : decode cX7_keepTrial 3 = .ok (.sipush 937, 3) := by decide +kernel
theorem dX7_keepTrial_6 : decode cX7_keepTrial 6 = .ok (.if_icmp .ge 21, 3) := by decide +kernel
theorem dX7_keepTrial_9 : decode cX7_keepTrial 9 = .ok (.aload_n 0, 1) := by decide +kernel
theorem dX7_keepTrial_10 : decode cX7_keepTrial 10 = .ok (.getfield 16, 3) := by decide +kernel
theorem dX7_keepTrial_13 : decode cX7_keepTrial 13 = .ok (.iload_n 1, 1) := by decide +kernel
theorem dX7_keepTrial_14 : decode cX7_keepTrial 14 = .ok (.aload_n 0, 1) := by decide +kernel
theorem dX7_keepTrial_15 : decode cX7_keepTrial 15 = .ok (.getfield 7, 3) := by decide +kernel
theorem dX7_keepTrial_18 : decode cX7_keepTrial 18 = .ok (.iload_n 1, 1) := by decide +kernel
theorem dX7_keepTrial_19 : decode cX7_keepTrial 19 = .ok (.iaload, 1) := by decide +kernel
theorem dX7_keepTrial_20 : decode cX7_keepTrial 20 = .ok (.iastore, 1) := by decide +kernel
theorem dX7_keepTrial_21 : decode cX7_keepTrial 21 = .ok (.iinc 1 1, 3) := by decide +kernel
theorem dX7_keepTrial_24 : decode cX7_keepTrial 24 = .ok (.goto (-22), 3) := by decide +kernel
theorem dX7_keepTrial_27 : decode cX7_keepTrial 27 = .ok (.return_, 1) := by decide +kernel
theorem dX7_putBack_0 : decode cX7_putBack 0 = .ok (.iconst 0, 1) := by decide +kernel
theorem dX7_putBack_1 : decode cX7_putBack 1 = .ok (.istore_n 1, 1) := by decide +kernel
theorem dX7_putBack_2 : decode cX7_putBack 2 = .ok (.iload_n 1, 1) := by decide +kernel
theorem dX7_putBack_3 : decode cX7_putBack 3 = .ok (.sipush 937, 3) := by decide +kernel
theorem dX7_putBack_6 : decode cX7_putBack 6 = .ok (.if_icmp .ge 21, 3) := by decide +kernel
theorem dX7_putBack_9 : decode cX7_putBack 9 = .ok (.aload_n 0, 1) := by decide +kernel
theorem dX7_putBack_10 : decode cX7_putBack 10 = .ok (.getfield 7, 3) := by decide +kernel
theorem dX7_putBack_13 : decode cX7_putBack 13 = .ok (.iload_n 1, 1) := by decide +kernel
theorem dX7_putBack_14 : decode cX7_putBack 14 = .ok (.aload_n 0, 1) := by decide +kernel
theorem dX7_putBack_15 : decode cX7_putBack 15 = .ok (.getfield 16, 3) := by decide +kernel
theorem dX7_putBack_18 : decode cX7_putBack 18 = .ok (.iload_n 1, 1) := by decide +kernel
theorem dX7_putBack_19 : decode cX7_putBack 19 = .ok (.iaload, 1) := by decide +kernel
theorem dX7_putBack_20 : decode cX7_putBack 20 = .ok (.iastore, 1) := by decide +kernel
theorem dX7_putBack_21 : decode cX7_putBack 21 = .ok (.iinc 1 1, 3) := by decide +kernel
theorem dX7_putBack_24 : decode cX7_putBack 24 = .ok (.goto (-22), 3) := by decide +kernel
theorem dX7_putBack_27 : decode cX7_putBack 27 = .ok (.return_, 1) := by decide +kernel
theorem dX7_takes_0 : decode cX7_takes 0 = .ok (.aload_n 0, 1) := by decide +kernel
theorem dX7_takes_1 : decode cX7_takes 1 = .ok (.getfield 7, 3) := by decide +kernel
theorem dX7_takes_4 : decode cX7_takes 4 = .ok (.iload_n 1, 1) := by decide +kernel
theorem dX7_takes_5 : decode cX7_takes 5 = .ok (.invokestatic 47, 3) := by decide +kernel
theorem dX7_takes_8 : decode cX7_takes 8 = .ok (.iaload, 1) := by decide +kernel
theorem dX7_takes_9 : decode cX7_takes 9 = .ok (.iconst 1, 1) := by decide +kernel
theorem dX7_takes_10 : decode cX7_takes 10 = .ok (.isub, 1) := by decide +kernel
theorem dX7_takes_11 : decode cX7_takes 11 = .ok (.istore_n 3, 1) := by decide +kernel
theorem dX7_takes_12 : decode cX7_takes 12 = .ok (.iload_n 1, 1) := by decide +kernel
theorem dX7_takes_13 : decode cX7_takes 13 = .ok (.iload_n 2, 1) := by decide +kernel
theorem dX7_takes_14 : decode cX7_takes 14 = .ok (.invokestatic 51, 3) := by decide +kernel
theorem dX7_takes_17 : decode cX7_takes 17 = .ok (.istore 4, 2) := by decide +kernel
theorem dX7_takes_19 : decode cX7_takes 19 = .ok (.iload 4, 2) := by decide +kernel
theorem dX7_takes_21 : decode cX7_takes 21 = .ok (.iload_n 1, 1) := by decide +kernel
theorem dX7_takes_22 : decode cX7_takes 22 = .ok (.iload_n 3, 1) := by decide +kernel
theorem dX7_takes_23 : decode cX7_takes 23 = .ok (.invokestatic 51, 3) := by decide +kernel
theorem dX7_takes_26 : decode cX7_takes 26 = .ok (.if_icmp .ge 25, 3) := by decide +kernel
theorem dX7_takes_29 : decode cX7_takes 29 = .ok (.aload_n 0, 1) := by decide +kernel
theorem dX7_takes_30 : decode cX7_takes 30 = .ok (.getfield 7, 3) := by decide +kernel
theorem dX7_takes_33 : decode cX7_takes 33 = .ok (.iload 4, 2) := by decide +kernel
theorem dX7_takes_35 : decode cX7_takes 35 = .ok (.aload_n 0, 1) := by decide +kernel
theorem dX7_takes_36 : decode cX7_takes 36 = .ok (.getfield 7, 3) := by decide +kernel
theorem dX7_takes_39 : decode cX7_takes 39 = .ok (.iload 4, 2) := by decide +kernel
theorem dX7_takes_41 : decode cX7_takes 41 = .ok (.iconst 3, 1) := by decide +kernel
theorem dX7_takes_42 : decode cX7_takes 42 = .ok (.iadd, 1) := by decide +kernel
theorem dX7_takes_43 : decode cX7_takes 43 = .ok (.iaload, 1) := by decide +kernel
theorem dX7_takes_44 : decode cX7_takes 44 = .ok (.iastore, 1) := by decide +kernel
theorem dX7_takes_45 : decode cX7_takes 45 = .ok (.iinc 4 1, 3) := by decide +kernel
theorem dX7_takes_48 : decode cX7_takes 48 = .ok (.goto (-29), 3) := by decide +kernel
theorem dX7_takes_51 : decode cX7_takes 51 = .ok (.aload_n 0, 1) := by decide +kernel
theorem dX7_takes_52 : decode cX7_takes 52 = .ok (.getfield 7, 3) := by decide +kernel
theorem dX7_takes_55 : decode cX7_takes 55 = .ok (.iload_n 1, 1) := by decide +kernel
theorem dX7_takes_56 : decode cX7_takes 56 = .ok (.invokestatic 47, 3) := by decide +kernel
theorem dX7_takes_59 : decode cX7_takes 59 = .ok (.dup2, 1) := by decide +kernel
theorem dX7_takes_60 : decode cX7_takes 60 = .ok (.iaload, 1) := by decide +kernel
theorem dX7_takes_61 : decode cX7_takes 61 = .ok (.iconst 1, 1) := by decide +kernel
theorem dX7_takes_62 : decode cX7_takes 62 = .ok (.isub, 1) := by decide +kernel
theorem dX7_takes_63 : decode cX7_takes 63 = .ok (.iastore, 1) := by decide +kernel
theorem dX7_takes_64 : decode cX7_takes 64 = .ok (.return_, 1) := by decide +kernel
theorem dX7_linkOf_0 : decode cX7_linkOf 0 = .ok (.iconst (-1), 1) := by decide +kernel
theorem dX7_linkOf_1 : decode cX7_linkOf 1 = .ok (.istore_n 3, 1) := by decide +kernel
theorem dX7_linkOf_2 : decode cX7_linkOf 2 = .ok (.iconst 0, 1) := by decide +kernel
theorem dX7_linkOf_3 : decode cX7_linkOf 3 = .ok (.istore 4, 2) := by decide +kernel
theorem dX7_linkOf_5 : decode cX7_linkOf 5 = .ok (.iload 4, 2) := by decide +kernel
theorem dX7_linkOf_7 : decode cX7_linkOf 7 = .ok (.aload_n 0, 1) := by decide +kernel
theorem dX7_linkOf_8 : decode cX7_linkOf 8 = .ok (.getfield 7, 3) := by decide +kernel
theorem dX7_linkOf_11 : decode cX7_linkOf 11 = .ok (.iload_n 1, 1) := by decide +kernel
theorem dX7_linkOf_12 : decode cX7_linkOf 12 = .ok (.invokestatic 47, 3) := by decide +kernel
theorem dX7_linkOf_15 : decode cX7_linkOf 15 = .ok (.iaload, 1) := by decide +kernel
theorem dX7_linkOf_16 : decode cX7_linkOf 16 = .ok (.if_icmp .ge 31, 3) := by decide +kernel
theorem dX7_linkOf_19 : decode cX7_linkOf 19 = .ok (.aload_n 0, 1) := by decide +kernel
theorem dX7_linkOf_20 : decode cX7_linkOf 20 = .ok (.getfield 7, 3) := by decide +kernel
theorem dX7_linkOf_23 : decode cX7_linkOf 23 = .ok (.iload_n 1, 1) := by decide +kernel
theorem dX7_linkOf_24 : decode cX7_linkOf 24 = .ok (.iload 4, 2) := by decide +kernel
theorem dX7_linkOf_26 : decode cX7_linkOf 26 = .ok (.invokestatic 51, 3) := by decide +kernel
theorem dX7_linkOf_29 : decode cX7_linkOf 29 = .ok (.iaload, 1) := by decide +kernel
theorem dX7_linkOf_30 : decode cX7_linkOf 30 = .ok (.iload_n 2, 1) := by decide +kernel
theorem dX7_linkOf_31 : decode cX7_linkOf 31 = .ok (.if_icmp .ne 8, 3) := by decide +kernel
theorem dX7_linkOf_34 : decode cX7_linkOf 34 = .ok (.iload 4, 2) := by decide +kernel
theorem dX7_linkOf_36 : decode cX7_linkOf 36 = .ok (.goto 4, 3) := by decide +kernel
theorem dX7_linkOf_39 : decode cX7_linkOf 39 = .ok (.iload_n 3, 1) := by decide +kernel
theorem dX7_linkOf_40 : decode cX7_linkOf 40 = .ok (.istore_n 3, 1) := by decide +kernel
theorem dX7_linkOf_41 : decode cX7_linkOf 41 = .ok (.iinc 4 1, 3) := by decide +kernel
theorem dX7_linkOf_44 : decode cX7_linkOf 44 = .ok (.goto (-39), 3) := by decide +kernel
theorem dX7_linkOf_47 : decode cX7_linkOf 47 = .ok (.iload_n 3, 1) := by decide +kernel
theorem dX7_linkOf_48 : decode cX7_linkOf 48 = .ok (.ireturn, 1) := by decide +kernel
theorem dX7_weakest_0 : decode cX7_weakest 0 = .ok (.iconst 0, 1) := by decide +kernel
theorem dX7_weakest_1 : decode cX7_weakest 1 = .ok (.istore_n 2, 1) := by decide +kernel
theorem dX7_weakest_2 : decode cX7_weakest 2 = .ok (.iconst 1, 1) := by decide +kernel
theorem dX7_weakest_3 : decode cX7_weakest 3 = .ok (.istore_n 3, 1) := by decide +kernel
theorem dX7_weakest_4 : decode cX7_weakest 4 = .ok (.iload_n 3, 1) := by decide +kernel
theorem dX7_weakest_5 : decode cX7_weakest 5 = .ok (.aload_n 0, 1) := by decide +kernel
theorem dX7_weakest_6 : decode cX7_weakest 6 = .ok (.getfield 7, 3) := by decide +kernel
theorem dX7_weakest_9 : decode cX7_weakest 9 = .ok (.iload_n 1, 1) := by decide +kernel
theorem dX7_weakest_10 : decode cX7_weakest 10 = .ok (.invokestatic 47, 3) := by decide +kernel
theorem dX7_weakest_13 : decode cX7_weakest 13 = .ok (.iaload, 1) := by decide +kernel
theorem dX7_weakest_14 : decode cX7_weakest 14 = .ok (.if_icmp .ge 42, 3) := by decide +kernel
theorem dX7_weakest_17 : decode cX7_weakest 17 = .ok (.aload_n 0, 1) := by decide +kernel
theorem dX7_weakest_18 : decode cX7_weakest 18 = .ok (.getfield 7, 3) := by decide +kernel
theorem dX7_weakest_21 : decode cX7_weakest 21 = .ok (.iload_n 1, 1) := by decide +kernel
theorem dX7_weakest_22 : decode cX7_weakest 22 = .ok (.iload_n 3, 1) := by decide +kernel
theorem dX7_weakest_23 : decode cX7_weakest 23 = .ok (.invokestatic 51, 3) := by decide +kernel
theorem dX7_weakest_26 : decode cX7_weakest 26 = .ok (.iconst 1, 1) := by decide +kernel
theorem dX7_weakest_27 : decode cX7_weakest 27 = .ok (.iadd, 1) := by decide +kernel
theorem dX7_weakest_28 : decode cX7_weakest 28 = .ok (.iaload, 1) := by decide +kernel
theorem dX7_weakest_29 : decode cX7_weakest 29 = .ok (.aload_n 0, 1) := by decide +kernel
theorem dX7_weakest_30 : decode cX7_weakest 30 = .ok (.getfield 7, 3) := by decide +kernel
theorem dX7_weakest_33 : decode cX7_weakest 33 = .ok (.iload_n 1, 1) := by decide +kernel
theorem dX7_weakest_34 : decode cX7_weakest 34 = .ok (.iload_n 2, 1) := by decide +kernel
theorem dX7_weakest_35 : decode cX7_weakest 35 = .ok (.invokestatic 51, 3) := by decide +kernel
theorem dX7_weakest_38 : decode cX7_weakest 38 = .ok (.iconst 1, 1) := by decide +kernel
theorem dX7_weakest_39 : decode cX7_weakest 39 = .ok (.iadd, 1) := by decide +kernel
theorem dX7_weakest_40 : decode cX7_weakest 40 = .ok (.iaload, 1) := by decide +kernel
theorem dX7_weakest_41 : decode cX7_weakest 41 = .ok (.if_icmp .ge 7, 3) := by decide +kernel
theorem dX7_weakest_44 : decode cX7_weakest 44 = .ok (.iload_n 3, 1) := by decide +kernel
theorem dX7_weakest_45 : decode cX7_weakest 45 = .ok (.goto 4, 3) := by decide +kernel
theorem dX7_weakest_48 : decode cX7_weakest 48 = .ok (.iload_n 2, 1) := by decide +kernel
theorem dX7_weakest_49 : decode cX7_weakest 49 = .ok (.istore_n 2, 1) := by decide +kernel
theorem dX7_weakest_50 : decode cX7_weakest 50 = .ok (.iinc 3 1, 3) := by decide +kernel
theorem dX7_weakest_53 : decode cX7_weakest 53 = .ok (.goto (-49), 3) := by decide +kernel
theorem dX7_weakest_56 : decode cX7_weakest 56 = .ok (.iload_n 2, 1) := by decide +kernel
theorem dX7_weakest_57 : decode cX7_weakest 57 = .ok (.ireturn, 1) := by decide +kernel
theorem dX7_grows_0 : decode cX7_grows 0 = .ok (.aload_n 0, 1) := by decide +kernel
theorem dX7_grows_1 : decode cX7_grows 1 = .ok (.iload_n 1, 1) := by decide +kernel
theorem dX7_grows_2 : decode cX7_grows 2 = .ok (.iload_n 2, 1) := by decide +kernel
theorem dX7_grows_3 : decode cX7_grows 3 = .ok (.invokevirtual 55, 3) := by decide +kernel
theorem dX7_grows_6 : decode cX7_grows 6 = .ok (.istore_n 3, 1) := by decide +kernel
theorem dX7_grows_7 : decode cX7_grows 7 = .ok (.aload_n 0, 1) := by decide +kernel
theorem dX7_grows_8 : decode cX7_grows 8 = .ok (.getfield 7, 3) := by decide +kernel
theorem dX7_grows_11 : decode cX7_grows 11 = .ok (.iconst 2, 1) := by decide +kernel
theorem dX7_grows_12 : decode cX7_grows 12 = .ok (.iaload, 1) := by decide +kernel
theorem dX7_grows_13 : decode cX7_grows 13 = .ok (.istore 4, 2) := by decide +kernel
theorem dX7_grows_15 : decode cX7_grows 15 = .ok (.iload_n 3, 1) := by decide +kernel
theorem dX7_grows_16 : decode cX7_grows 16 = .ok (.iconst (-1), 1) := by decide +kernel
theorem dX7_grows_17 : decode cX7_grows 17 = .ok (.if_icmp .eq 26, 3) := by decide +kernel
theorem dX7_grows_20 : decode cX7_grows 20 = .ok (.iload 4, 2) := by decide +kernel
theorem dX7_grows_22 : decode cX7_grows 22 = .ok (.aload_n 0, 1) := by decide +kernel
theorem dX7_grows_23 : decode cX7_grows 23 = .ok (.getfield 7, 3) := by decide +kernel
theorem dX7_grows_26 : decode cX7_grows 26 = .ok (.iload_n 1, 1) := by decide +kernel
theorem dX7_grows_27 : decode cX7_grows 27 = .ok (.iload_n 3, 1) := by decide +kernel
theorem dX7_grows_28 : decode cX7_grows 28 = .ok (.invokestatic 51, 3) := by decide +kernel
theorem dX7_grows_31 : decode cX7_grows 31 = .ok (.iconst 1, 1) := by decide +kernel
theorem dX7_grows_32 : decode cX7_grows 32 = .ok (.iadd, 1) := by decide +kernel
theorem dX7_grows_33 : decode cX7_grows 33 = .ok (.iaload, 1) := by decide +kernel
theorem dX7_grows_34 : decode cX7_grows 34 = .ok (.iadd, 1) := by decide +kernel
theorem dX7_grows_35 : decode cX7_grows 35 = .ok (.istore 4, 2) := by decide +kernel
theorem dX7_grows_37 : decode cX7_grows 37 = .ok (.aload_n 0, 1) := by decide +kernel
theorem dX7_grows_38 : decode cX7_grows 38 = .ok (.iload_n 1, 1) := by decide +kernel
theorem dX7_grows_39 : decode cX7_grows 39 = .ok (.iload_n 3, 1) := by decide +kernel
end
section
theorem dX7_grows_40 : decode cX7_grows 40 = .ok (.invokevirtual 58, 3) := by decide +kernel
theorem dX7_grows_43 : decode cX7_grows 43 = .ok (.iload_n 1, 1) := by decide +kernel
theorem dX7_grows_44 : decode cX7_grows 44 = .ok (.aload_n 0, 1) := by decide +kernel
theorem dX7_grows_45 : decode cX7_grows 45 = .ok (.getfield 7, 3) := by decide +kernel
theorem dX7_grows_48 : decode cX7_grows 48 = .ok (.iload_n 1, 1) := by decide +kernel
theorem dX7_grows_49 : decode cX7_grows 49 = .ok (.invokestatic 47, 3) := by decide +kernel
theorem dX7_grows_52 : decode cX7_grows 52 = .ok (.iaload, 1) := by decide +kernel
theorem dX7_grows_53 : decode cX7_grows 53 = .ok (.invokestatic 51, 3) := by decide +kernel
theorem dX7_grows_56 : decode cX7_grows 56 = .ok (.istore 5, 2) := by decide +kernel
theorem dX7_grows_58 : decode cX7_grows 58 = .ok (.aload_n 0, 1) := by decide +kernel
theorem dX7_grows_59 : decode cX7_grows 59 = .ok (.getfield 7, 3) := by decide +kernel
theorem dX7_grows_62 : decode cX7_grows 62 = .ok (.iload 5, 2) := by decide +kernel
theorem dX7_grows_64 : decode cX7_grows 64 = .ok (.iload_n 2, 1) := by decide +kernel
theorem dX7_grows_65 : decode cX7_grows 65 = .ok (.iastore, 1) := by decide +kernel
theorem dX7_grows_66 : decode cX7_grows 66 = .ok (.aload_n 0, 1) := by decide +kernel
theorem dX7_grows_67 : decode cX7_grows 67 = .ok (.getfield 7, 3) := by decide +kernel
theorem dX7_grows_70 : decode cX7_grows 70 = .ok (.iload 5, 2) := by decide +kernel
theorem dX7_grows_72 : decode cX7_grows 72 = .ok (.iconst 1, 1) := by decide +kernel
theorem dX7_grows_73 : decode cX7_grows 73 = .ok (.iadd, 1) := by decide +kernel
theorem dX7_grows_74 : decode cX7_grows 74 = .ok (.iload 4, 2) := by decide +kernel
theorem dX7_grows_76 : decode cX7_grows 76 = .ok (.bipush 9, 2) := by decide +kernel
theorem dX7_grows_78 : decode cX7_grows 78 = .ok (.if_icmp .le 8, 3) := by decide +kernel
theorem dX7_grows_81 : decode cX7_grows 81 = .ok (.bipush 9, 2) := by decide +kernel
theorem dX7_grows_83 : decode cX7_grows 83 = .ok (.goto 5, 3) := by decide +kernel
theorem dX7_grows_86 : decode cX7_grows 86 = .ok (.iload 4, 2) := by decide +kernel
theorem dX7_grows_88 : decode cX7_grows 88 = .ok (.iastore, 1) := by decide +kernel
theorem dX7_grows_89 : decode cX7_grows 89 = .ok (.aload_n 0, 1) := by decide +kernel
theorem dX7_grows_90 : decode cX7_grows 90 = .ok (.getfield 7, 3) := by decide +kernel
theorem dX7_grows_93 : decode cX7_grows 93 = .ok (.iload 5, 2) := by decide +kernel
theorem dX7_grows_95 : decode cX7_grows 95 = .ok (.iconst 2, 1) := by decide +kernel
theorem dX7_grows_96 : decode cX7_grows 96 = .ok (.iadd, 1) := by decide +kernel
theorem dX7_grows_97 : decode cX7_grows 97 = .ok (.iconst 1, 1) := by decide +kernel
theorem dX7_grows_98 : decode cX7_grows 98 = .ok (.iastore, 1) := by decide +kernel
theorem dX7_grows_99 : decode cX7_grows 99 = .ok (.aload_n 0, 1) := by decide +kernel
theorem dX7_grows_100 : decode cX7_grows 100 = .ok (.getfield 7, 3) := by decide +kernel
theorem dX7_grows_103 : decode cX7_grows 103 = .ok (.iload_n 1, 1) := by decide +kernel
theorem dX7_grows_104 : decode cX7_grows 104 = .ok (.invokestatic 47, 3) := by decide +kernel
theorem dX7_grows_107 : decode cX7_grows 107 = .ok (.dup2, 1) := by decide +kernel
theorem dX7_grows_108 : decode cX7_grows 108 = .ok (.iaload, 1) := by decide +kernel
theorem dX7_grows_109 : decode cX7_grows 109 = .ok (.iconst 1, 1) := by decide +kernel
theorem dX7_grows_110 : decode cX7_grows 110 = .ok (.iadd, 1) := by decide +kernel
theorem dX7_grows_111 : decode cX7_grows 111 = .ok (.iastore, 1) := by decide +kernel
theorem dX7_grows_112 : decode cX7_grows 112 = .ok (.aload_n 0, 1) := by decide +kernel
theorem dX7_grows_113 : decode cX7_grows 113 = .ok (.getfield 7, 3) := by decide +kernel
theorem dX7_grows_116 : decode cX7_grows 116 = .ok (.iload_n 1, 1) := by decide +kernel
theorem dX7_grows_117 : decode cX7_grows 117 = .ok (.invokestatic 47, 3) := by decide +kernel
theorem dX7_grows_120 : decode cX7_grows 120 = .ok (.iaload, 1) := by decide +kernel
theorem dX7_grows_121 : decode cX7_grows 121 = .ok (.aload_n 0, 1) := by decide +kernel
theorem dX7_grows_122 : decode cX7_grows 122 = .ok (.getfield 7, 3) := by decide +kernel
theorem dX7_grows_125 : decode cX7_grows 125 = .ok (.iconst 0, 1) := by decide +kernel
theorem dX7_grows_126 : decode cX7_grows 126 = .ok (.iaload, 1) := by decide +kernel
theorem dX7_grows_127 : decode cX7_grows 127 = .ok (.if_icmp .le 28, 3) := by decide +kernel
theorem dX7_grows_130 : decode cX7_grows 130 = .ok (.aload_n 0, 1) := by decide +kernel
theorem dX7_grows_131 : decode cX7_grows 131 = .ok (.iload_n 1, 1) := by decide +kernel
theorem dX7_grows_132 : decode cX7_grows 132 = .ok (.aload_n 0, 1) := by decide +kernel
theorem dX7_grows_133 : decode cX7_grows 133 = .ok (.iload_n 1, 1) := by decide +kernel
theorem dX7_grows_134 : decode cX7_grows 134 = .ok (.invokevirtual 62, 3) := by decide +kernel
theorem dX7_grows_137 : decode cX7_grows 137 = .ok (.invokevirtual 58, 3) := by decide +kernel
theorem dX7_grows_140 : decode cX7_grows 140 = .ok (.aload_n 0, 1) := by decide +kernel
theorem dX7_grows_141 : decode cX7_grows 141 = .ok (.getfield 7, 3) := by decide +kernel
theorem dX7_grows_144 : decode cX7_grows 144 = .ok (.iload_n 1, 1) := by decide +kernel
theorem dX7_grows_145 : decode cX7_grows 145 = .ok (.invokestatic 47, 3) := by decide +kernel
theorem dX7_grows_148 : decode cX7_grows 148 = .ok (.iconst 4, 1) := by decide +kernel
theorem dX7_grows_149 : decode cX7_grows 149 = .ok (.iadd, 1) := by decide +kernel
theorem dX7_grows_150 : decode cX7_grows 150 = .ok (.dup2, 1) := by decide +kernel
theorem dX7_grows_151 : decode cX7_grows 151 = .ok (.iaload, 1) := by decide +kernel
theorem dX7_grows_152 : decode cX7_grows 152 = .ok (.iconst 1, 1) := by decide +kernel
theorem dX7_grows_153 : decode cX7_grows 153 = .ok (.iadd, 1) := by decide +kernel
theorem dX7_grows_154 : decode cX7_grows 154 = .ok (.iastore, 1) := by decide +kernel
theorem dX7_grows_155 : decode cX7_grows 155 = .ok (.return_, 1) := by decide +kernel
theorem dX7_hears_0 : decode cX7_hears 0 = .ok (.iload_n 1, 1) := by decide +kernel
theorem dX7_hears_1 : decode cX7_hears 1 = .ok (.invokestatic 47, 3) := by decide +kernel
theorem dX7_hears_4 : decode cX7_hears 4 = .ok (.istore_n 3, 1) := by decide +kernel
theorem dX7_hears_5 : decode cX7_hears 5 = .ok (.aload_n 0, 1) := by decide +kernel
theorem dX7_hears_6 : decode cX7_hears 6 = .ok (.getfield 7, 3) := by decide +kernel
theorem dX7_hears_9 : decode cX7_hears 9 = .ok (.iload_n 3, 1) := by decide +kernel
theorem dX7_hears_10 : decode cX7_hears 10 = .ok (.iconst 1, 1) := by decide +kernel
theorem dX7_hears_11 : decode cX7_hears 11 = .ok (.iadd, 1) := by decide +kernel
theorem dX7_hears_12 : decode cX7_hears 12 = .ok (.iaload, 1) := by decide +kernel
theorem dX7_hears_13 : decode cX7_hears 13 = .ok (.ifCond .lt 21, 3) := by decide +kernel
theorem dX7_hears_16 : decode cX7_hears 16 = .ok (.aload_n 0, 1) := by decide +kernel
theorem dX7_hears_17 : decode cX7_hears 17 = .ok (.iload_n 1, 1) := by decide +kernel
theorem dX7_hears_18 : decode cX7_hears 18 = .ok (.bipush 26, 2) := by decide +kernel
theorem dX7_hears_20 : decode cX7_hears 20 = .ok (.aload_n 0, 1) := by decide +kernel
theorem dX7_hears_21 : decode cX7_hears 21 = .ok (.getfield 7, 3) := by decide +kernel
theorem dX7_hears_24 : decode cX7_hears 24 = .ok (.iload_n 3, 1) := by decide +kernel
theorem dX7_hears_25 : decode cX7_hears 25 = .ok (.iconst 1, 1) := by decide +kernel
theorem dX7_hears_26 : decode cX7_hears 26 = .ok (.iadd, 1) := by decide +kernel
theorem dX7_hears_27 : decode cX7_hears 27 = .ok (.iaload, 1) := by decide +kernel
theorem dX7_hears_28 : decode cX7_hears 28 = .ok (.imul, 1) := by decide +kernel
theorem dX7_hears_29 : decode cX7_hears 29 = .ok (.iload_n 2, 1) := by decide +kernel
theorem dX7_hears_30 : decode cX7_hears 30 = .ok (.iadd, 1) := by decide +kernel
theorem dX7_hears_31 : decode cX7_hears 31 = .ok (.invokevirtual 65, 3) := by decide +kernel
theorem dX7_hears_34 : decode cX7_hears 34 = .ok (.aload_n 0, 1) := by decide +kernel
theorem dX7_hears_35 : decode cX7_hears 35 = .ok (.getfield 7, 3) := by decide +kernel
theorem dX7_hears_38 : decode cX7_hears 38 = .ok (.iload_n 3, 1) := by decide +kernel
theorem dX7_hears_39 : decode cX7_hears 39 = .ok (.iconst 1, 1) := by decide +kernel
theorem dX7_hears_40 : decode cX7_hears 40 = .ok (.iadd, 1) := by decide +kernel
theorem dX7_hears_41 : decode cX7_hears 41 = .ok (.iload_n 2, 1) := by decide +kernel
theorem dX7_hears_42 : decode cX7_hears 42 = .ok (.iastore, 1) := by decide +kernel
theorem dX7_hears_43 : decode cX7_hears 43 = .ok (.aload_n 0, 1) := by decide +kernel
theorem dX7_hears_44 : decode cX7_hears 44 = .ok (.getfield 7, 3) := by decide +kernel
theorem dX7_hears_47 : decode cX7_hears 47 = .ok (.iload_n 3, 1) := by decide +kernel
theorem dX7_hears_48 : decode cX7_hears 48 = .ok (.iconst 2, 1) := by decide +kernel
theorem dX7_hears_49 : decode cX7_hears 49 = .ok (.iadd, 1) := by decide +kernel
theorem dX7_hears_50 : decode cX7_hears 50 = .ok (.dup2, 1) := by decide +kernel
theorem dX7_hears_51 : decode cX7_hears 51 = .ok (.iaload, 1) := by decide +kernel
theorem dX7_hears_52 : decode cX7_hears 52 = .ok (.iconst 1, 1) := by decide +kernel
theorem dX7_hears_53 : decode cX7_hears 53 = .ok (.iadd, 1) := by decide +kernel
theorem dX7_hears_54 : decode cX7_hears 54 = .ok (.iastore, 1) := by decide +kernel
theorem dX7_hears_55 : decode cX7_hears 55 = .ok (.aload_n 0, 1) := by decide +kernel
theorem dX7_hears_56 : decode cX7_hears 56 = .ok (.getfield 7, 3) := by decide +kernel
theorem dX7_hears_59 : decode cX7_hears 59 = .ok (.iload_n 3, 1) := by decide +kernel
theorem dX7_hears_60 : decode cX7_hears 60 = .ok (.iconst 3, 1) := by decide +kernel
theorem dX7_hears_61 : decode cX7_hears 61 = .ok (.iadd, 1) := by decide +kernel
theorem dX7_hears_62 : decode cX7_hears 62 = .ok (.dup2, 1) := by decide +kernel
theorem dX7_hears_63 : decode cX7_hears 63 = .ok (.iaload, 1) := by decide +kernel
theorem dX7_hears_64 : decode cX7_hears 64 = .ok (.iconst 1, 1) := by decide +kernel
theorem dX7_hears_65 : decode cX7_hears 65 = .ok (.iadd, 1) := by decide +kernel
theorem dX7_hears_66 : decode cX7_hears 66 = .ok (.iastore, 1) := by decide +kernel
theorem dX7_hears_67 : decode cX7_hears 67 = .ok (.aload_n 0, 1) := by decide +kernel
theorem dX7_hears_68 : decode cX7_hears 68 = .ok (.getfield 7, 3) := by decide +kernel
theorem dX7_hears_71 : decode cX7_hears 71 = .ok (.bipush 8, 2) := by decide +kernel
theorem dX7_hears_73 : decode cX7_hears 73 = .ok (.dup2, 1) := by decide +kernel
theorem dX7_hears_74 : decode cX7_hears 74 = .ok (.iaload, 1) := by decide +kernel
theorem dX7_hears_75 : decode cX7_hears 75 = .ok (.iconst 1, 1) := by decide +kernel
theorem dX7_hears_76 : decode cX7_hears 76 = .ok (.iadd, 1) := by decide +kernel
theorem dX7_hears_77 : decode cX7_hears 77 = .ok (.iastore, 1) := by decide +kernel
theorem dX7_hears_78 : decode cX7_hears 78 = .ok (.return_, 1) := by decide +kernel
theorem dX7_isTired_0 : decode cX7_isTired 0 = .ok (.aload_n 0, 1) := by decide +kernel
theorem dX7_isTired_1 : decode cX7_isTired 1 = .ok (.getfield 7, 3) := by decide +kernel
theorem dX7_isTired_4 : decode cX7_isTired 4 = .ok (.iload_n 1, 1) := by decide +kernel
theorem dX7_isTired_5 : decode cX7_isTired 5 = .ok (.invokestatic 47, 3) := by decide +kernel
theorem dX7_isTired_8 : decode cX7_isTired 8 = .ok (.iconst 2, 1) := by decide +kernel
theorem dX7_isTired_9 : decode cX7_isTired 9 = .ok (.iadd, 1) := by decide +kernel
theorem dX7_isTired_10 : decode cX7_isTired 10 = .ok (.iaload, 1) := by decide +kernel
theorem dX7_isTired_11 : decode cX7_isTired 11 = .ok (.aload_n 0, 1) := by decide +kernel
theorem dX7_isTired_12 : decode cX7_isTired 12 = .ok (.getfield 7, 3) := by decide +kernel
theorem dX7_isTired_15 : decode cX7_isTired 15 = .ok (.iconst 3, 1) := by decide +kernel
theorem dX7_isTired_16 : decode cX7_isTired 16 = .ok (.iaload, 1) := by decide +kernel
theorem dX7_isTired_17 : decode cX7_isTired 17 = .ok (.if_icmp .lt 7, 3) := by decide +kernel
theorem dX7_isTired_20 : decode cX7_isTired 20 = .ok (.iconst 1, 1) := by decide +kernel
theorem dX7_isTired_21 : decode cX7_isTired 21 = .ok (.goto 4, 3) := by decide +kernel
theorem dX7_isTired_24 : decode cX7_isTired 24 = .ok (.iconst 0, 1) := by decide +kernel
theorem dX7_isTired_25 : decode cX7_isTired 25 = .ok (.ireturn, 1) := by decide +kernel
theorem dX7_goesOn_0 : decode cX7_goesOn 0 = .ok (.iconst (-1), 1) := by decide +kernel
theorem dX7_goesOn_1 : decode cX7_goesOn 1 = .ok (.istore_n 3, 1) := by decide +kernel
theorem dX7_goesOn_2 : decode cX7_goesOn 2 = .ok (.iconst 0, 1) := by decide +kernel
theorem dX7_goesOn_3 : decode cX7_goesOn 3 = .ok (.istore 4, 2) := by decide +kernel
theorem dX7_goesOn_5 : decode cX7_goesOn 5 = .ok (.iload 4, 2) := by decide +kernel
theorem dX7_goesOn_7 : decode cX7_goesOn 7 = .ok (.aload_n 0, 1) := by decide +kernel
theorem dX7_goesOn_8 : decode cX7_goesOn 8 = .ok (.getfield 7, 3) := by decide +kernel
theorem dX7_goesOn_11 : decode cX7_goesOn 11 = .ok (.iload_n 1, 1) := by decide +kernel
theorem dX7_goesOn_12 : decode cX7_goesOn 12 = .ok (.invokestatic 47, 3) := by decide +kernel
theorem dX7_goesOn_15 : decode cX7_goesOn 15 = .ok (.iaload, 1) := by decide +kernel
theorem dX7_goesOn_16 : decode cX7_goesOn 16 = .ok (.if_icmp .ge 67, 3) := by decide +kernel
theorem dX7_goesOn_19 : decode cX7_goesOn 19 = .ok (.iload_n 1, 1) := by decide +kernel
theorem dX7_goesOn_20 : decode cX7_goesOn 20 = .ok (.iload 4, 2) := by decide +kernel
theorem dX7_goesOn_22 : decode cX7_goesOn 22 = .ok (.invokestatic 51, 3) := by decide +kernel
theorem dX7_goesOn_25 : decode cX7_goesOn 25 = .ok (.istore 5, 2) := by decide +kernel
theorem dX7_goesOn_27 : decode cX7_goesOn 27 = .ok (.aload_n 0, 1) := by decide +kernel
theorem dX7_goesOn_28 : decode cX7_goesOn 28 = .ok (.getfield 7, 3) := by decide +kernel
theorem dX7_goesOn_31 : decode cX7_goesOn 31 = .ok (.iload 5, 2) := by decide +kernel
theorem dX7_goesOn_33 : decode cX7_goesOn 33 = .ok (.iaload, 1) := by decide +kernel
theorem dX7_goesOn_34 : decode cX7_goesOn 34 = .ok (.bipush 26, 2) := by decide +kernel
theorem dX7_goesOn_36 : decode cX7_goesOn 36 = .ok (.idiv, 1) := by decide +kernel
theorem dX7_goesOn_37 : decode cX7_goesOn 37 = .ok (.iload_n 2, 1) := by decide +kernel
theorem dX7_goesOn_38 : decode cX7_goesOn 38 = .ok (.if_icmp .ne 37, 3) := by decide +kernel
theorem dX7_goesOn_41 : decode cX7_goesOn 41 = .ok (.iload_n 3, 1) := by decide +kernel
theorem dX7_goesOn_42 : decode cX7_goesOn 42 = .ok (.iconst (-1), 1) := by decide +kernel
theorem dX7_goesOn_43 : decode cX7_goesOn 43 = .ok (.if_icmp .eq 27, 3) := by decide +kernel
theorem dX7_goesOn_46 : decode cX7_goesOn 46 = .ok (.aload_n 0, 1) := by decide +kernel
theorem dX7_goesOn_47 : decode cX7_goesOn 47 = .ok (.getfield 7, 3) := by decide +kernel
theorem dX7_goesOn_50 : decode cX7_goesOn 50 = .ok (.iload 5, 2) := by decide +kernel
theorem dX7_goesOn_52 : decode cX7_goesOn 52 = .ok (.iconst 1, 1) := by decide +kernel
theorem dX7_goesOn_53 : decode cX7_goesOn 53 = .ok (.iadd, 1) := by decide +kernel
theorem dX7_goesOn_54 : decode cX7_goesOn 54 = .ok (.iaload, 1) := by decide +kernel
theorem dX7_goesOn_55 : decode cX7_goesOn 55 = .ok (.aload_n 0, 1) := by decide +kernel
theorem dX7_goesOn_56 : decode cX7_goesOn 56 = .ok (.getfield 7, 3) := by decide +kernel
theorem dX7_goesOn_59 : decode cX7_goesOn 59 = .ok (.iload_n 1, 1) := by decide +kernel
theorem dX7_goesOn_60 : decode cX7_goesOn 60 = .ok (.iload_n 3, 1) := by decide +kernel
theorem dX7_goesOn_61 : decode cX7_goesOn 61 = .ok (.invokestatic 51, 3) := by decide +kernel
theorem dX7_goesOn_64 : decode cX7_goesOn 64 = .ok (.iconst 1, 1) := by decide +kernel
theorem dX7_goesOn_65 : decode cX7_goesOn 65 = .ok (.iadd, 1) := by decide +kernel
theorem dX7_goesOn_66 : decode cX7_goesOn 66 = .ok (.iaload, 1) := by decide +kernel
theorem dX7_goesOn_67 : decode cX7_goesOn 67 = .ok (.if_icmp .lt 8, 3) := by decide +kernel
theorem dX7_goesOn_70 : decode cX7_goesOn 70 = .ok (.iload 4, 2) := by decide +kernel
theorem dX7_goesOn_72 : decode cX7_goesOn 72 = .ok (.goto 4, 3) := by decide +kernel
theorem dX7_goesOn_75 : decode cX7_goesOn 75 = .ok (.iload_n 3, 1) := by decide +kernel
theorem dX7_goesOn_76 : decode cX7_goesOn 76 = .ok (.istore_n 3, 1) := by decide +kernel
theorem dX7_goesOn_77 : decode cX7_goesOn 77 = .ok (.iinc 4 1, 3) := by decide +kernel
theorem dX7_goesOn_80 : decode cX7_goesOn 80 = .ok (.goto (-75), 3) := by decide +kernel
theorem dX7_goesOn_83 : decode cX7_goesOn 83 = .ok (.iload_n 3, 1) := by decide +kernel
theorem dX7_goesOn_84 : decode cX7_goesOn 84 = .ok (.iconst (-1), 1) := by decide +kernel
theorem dX7_goesOn_85 : decode cX7_goesOn 85 = .ok (.if_icmp .ne 7, 3) := by decide +kernel
theorem dX7_goesOn_88 : decode cX7_goesOn 88 = .ok (.iconst (-1), 1) := by decide +kernel
theorem dX7_goesOn_89 : decode cX7_goesOn 89 = .ok (.goto 16, 3) := by decide +kernel
theorem dX7_goesOn_92 : decode cX7_goesOn 92 = .ok (.aload_n 0, 1) := by decide +kernel
theorem dX7_goesOn_93 : decode cX7_goesOn 93 = .ok (.getfield 7, 3) := by decide +kernel
theorem dX7_goesOn_96 : decode cX7_goesOn 96 = .ok (.iload_n 1, 1) := by decide +kernel
theorem dX7_goesOn_97 : decode cX7_goesOn 97 = .ok (.iload_n 3, 1) := by decide +kernel
theorem dX7_goesOn_98 : decode cX7_goesOn 98 = .ok (.invokestatic 51, 3) := by decide +kernel
theorem dX7_goesOn_101 : decode cX7_goesOn 101 = .ok (.iaload, 1) := by decide +kernel
theorem dX7_goesOn_102 : decode cX7_goesOn 102 = .ok (.bipush 26, 2) := by decide +kernel
theorem dX7_goesOn_104 : decode cX7_goesOn 104 = .ok (.irem, 1) := by decide +kernel
theorem dX7_goesOn_105 : decode cX7_goesOn 105 = .ok (.ireturn, 1) := by decide +kernel
theorem dX7_right_0 : decode cX7_right 0 = .ok (.iload_n 2, 1) := by decide +kernel
theorem dX7_right_1 : decode cX7_right 1 = .ok (.invokestatic 68, 3) := by decide +kernel
theorem dX7_right_4 : decode cX7_right 4 = .ok (.istore_n 3, 1) := by decide +kernel
theorem dX7_right_5 : decode cX7_right 5 = .ok (.iconst 0, 1) := by decide +kernel
theorem dX7_right_6 : decode cX7_right 6 = .ok (.istore 4, 2) := by decide +kernel
theorem dX7_right_8 : decode cX7_right 8 = .ok (.iload 4, 2) := by decide +kernel
theorem dX7_right_10 : decode cX7_right 10 = .ok (.iconst 1, 1) := by decide +kernel
theorem dX7_right_11 : decode cX7_right 11 = .ok (.iadd, 1) := by decide +kernel
theorem dX7_right_12 : decode cX7_right 12 = .ok (.aload_n 0, 1) := by decide +kernel
theorem dX7_right_13 : decode cX7_right 13 = .ok (.getfield 7, 3) := by decide +kernel
theorem dX7_right_16 : decode cX7_right 16 = .ok (.iload_n 3, 1) := by decide +kernel
theorem dX7_right_17 : decode cX7_right 17 = .ok (.iaload, 1) := by decide +kernel
theorem dX7_right_18 : decode cX7_right 18 = .ok (.if_icmp .ge 39, 3) := by decide +kernel
theorem dX7_right_21 : decode cX7_right 21 = .ok (.aload_n 0, 1) := by decide +kernel
theorem dX7_right_22 : decode cX7_right 22 = .ok (.iload_n 1, 1) := by decide +kernel
theorem dX7_right_23 : decode cX7_right 23 = .ok (.aload_n 0, 1) := by decide +kernel
theorem dX7_right_24 : decode cX7_right 24 = .ok (.getfield 7, 3) := by decide +kernel
theorem dX7_right_27 : decode cX7_right 27 = .ok (.iload_n 3, 1) := by decide +kernel
theorem dX7_right_28 : decode cX7_right 28 = .ok (.iconst 2, 1) := by decide +kernel
theorem dX7_right_29 : decode cX7_right 29 = .ok (.iadd, 1) := by decide +kernel
theorem dX7_right_30 : decode cX7_right 30 = .ok (.iload 4, 2) := by decide +kernel
theorem dX7_right_32 : decode cX7_right 32 = .ok (.iadd, 1) := by decide +kernel
theorem dX7_right_33 : decode cX7_right 33 = .ok (.iaload, 1) := by decide +kernel
theorem dX7_right_34 : decode cX7_right 34 = .ok (.invokevirtual 71, 3) := by decide +kernel
theorem dX7_right_37 : decode cX7_right 37 = .ok (.aload_n 0, 1) := by decide +kernel
theorem dX7_right_38 : decode cX7_right 38 = .ok (.getfield 7, 3) := by decide +kernel
theorem dX7_right_41 : decode cX7_right 41 = .ok (.iload_n 3, 1) := by decide +kernel
theorem dX7_right_42 : decode cX7_right 42 = .ok (.iconst 3, 1) := by decide +kernel
theorem dX7_right_43 : decode cX7_right 43 = .ok (.iadd, 1) := by decide +kernel
theorem dX7_right_44 : decode cX7_right 44 = .ok (.iload 4, 2) := by decide +kernel
theorem dX7_right_46 : decode cX7_right 46 = .ok (.iadd, 1) := by decide +kernel
theorem dX7_right_47 : decode cX7_right 47 = .ok (.iaload, 1) := by decide +kernel
theorem dX7_right_48 : decode cX7_right 48 = .ok (.if_icmp .ne 9, 3) := by decide +kernel
theorem dX7_right_51 : decode cX7_right 51 = .ok (.iinc 4 1, 3) := by decide +kernel
theorem dX7_right_54 : decode cX7_right 54 = .ok (.goto (-46), 3) := by decide +kernel
theorem dX7_right_57 : decode cX7_right 57 = .ok (.iload 4, 2) := by decide +kernel
theorem dX7_right_59 : decode cX7_right 59 = .ok (.ireturn, 1) := by decide +kernel
theorem dX7_hundredths_0 : decode cX7_hundredths 0 = .ok (.aload_n 0, 1) := by decide +kernel
theorem dX7_hundredths_1 : decode cX7_hundredths 1 = .ok (.getfield 7, 3) := by decide +kernel
theorem dX7_hundredths_4 : decode cX7_hundredths 4 = .ok (.iload_n 2, 1) := by decide +kernel
theorem dX7_hundredths_5 : decode cX7_hundredths 5 = .ok (.invokestatic 68, 3) := by decide +kernel
theorem dX7_hundredths_8 : decode cX7_hundredths 8 = .ok (.iaload, 1) := by decide +kernel
theorem dX7_hundredths_9 : decode cX7_hundredths 9 = .ok (.iconst 1, 1) := by decide +kernel
theorem dX7_hundredths_10 : decode cX7_hundredths 10 = .ok (.if_icmp .ne 8, 3) := by decide +kernel
theorem dX7_hundredths_13 : decode cX7_hundredths 13 = .ok (.bipush 100, 2) := by decide +kernel
theorem dX7_hundredths_15 : decode cX7_hundredths 15 = .ok (.goto 24, 3) := by decide +kernel
theorem dX7_hundredths_18 : decode cX7_hundredths 18 = .ok (.bipush 100, 2) := by decide +kernel
theorem dX7_hundredths_20 : decode cX7_hundredths 20 = .ok (.aload_n 0, 1) := by decide +kernel
theorem dX7_hundredths_21 : decode cX7_hundredths 21 = .ok (.iload_n 1, 1) := by decide +kernel
theorem dX7_hundredths_22 : decode cX7_hundredths 22 = .ok (.iload_n 2, 1) := by decide +kernel
theorem dX7_hundredths_23 : decode cX7_hundredths 23 = .ok (.invokevirtual 74, 3) := by decide +kernel
theorem dX7_hundredths_26 : decode cX7_hundredths 26 = .ok (.imul, 1) := by decide +kernel
theorem dX7_hundredths_27 : decode cX7_hundredths 27 = .ok (.aload_n 0, 1) := by decide +kernel
theorem dX7_hundredths_28 : decode cX7_hundredths 28 = .ok (.getfield 7, 3) := by decide +kernel
theorem dX7_hundredths_31 : decode cX7_hundredths 31 = .ok (.iload_n 2, 1) := by decide +kernel
theorem dX7_hundredths_32 : decode cX7_hundredths 32 = .ok (.invokestatic 68, 3) := by decide +kernel
theorem dX7_hundredths_35 : decode cX7_hundredths 35 = .ok (.iaload, 1) := by decide +kernel
theorem dX7_hundredths_36 : decode cX7_hundredths 36 = .ok (.iconst 1, 1) := by decide +kernel
theorem dX7_hundredths_37 : decode cX7_hundredths 37 = .ok (.isub, 1) := by decide +kernel
theorem dX7_hundredths_38 : decode cX7_hundredths 38 = .ok (.idiv, 1) := by decide +kernel
theorem dX7_hundredths_39 : decode cX7_hundredths 39 = .ok (.ireturn, 1) := by decide +kernel
theorem dX7_known_0 : decode cX7_known 0 = .ok (.iconst 0, 1) := by decide +kernel
theorem dX7_known_1 : decode cX7_known 1 = .ok (.istore_n 2, 1) := by decide +kernel
theorem dX7_known_2 : decode cX7_known 2 = .ok (.iconst 0, 1) := by decide +kernel
theorem dX7_known_3 : decode cX7_known 3 = .ok (.istore_n 3, 1) := by decide +kernel
theorem dX7_known_4 : decode cX7_known 4 = .ok (.iload_n 3, 1) := by decide +kernel
theorem dX7_known_5 : decode cX7_known 5 = .ok (.aload_n 0, 1) := by decide +kernel
theorem dX7_known_6 : decode cX7_known 6 = .ok (.getfield 7, 3) := by decide +kernel
theorem dX7_known_9 : decode cX7_known 9 = .ok (.iconst 5, 1) := by decide +kernel
theorem dX7_known_10 : decode cX7_known 10 = .ok (.iaload, 1) := by decide +kernel
theorem dX7_known_11 : decode cX7_known 11 = .ok (.if_icmp .ge 18, 3) := by decide +kernel
theorem dX7_known_14 : decode cX7_known 14 = .ok (.iload_n 2, 1) := by decide +kernel
theorem dX7_known_15 : decode cX7_known 15 = .ok (.aload_n 0, 1) := by decide +kernel
theorem dX7_known_16 : decode cX7_known 16 = .ok (.iload_n 1, 1) := by decide +kernel
theorem dX7_known_17 : decode cX7_known 17 = .ok (.iload_n 3, 1) := by decide +kernel
theorem dX7_known_18 : decode cX7_known 18 = .ok (.invokevirtual 77, 3) := by decide +kernel
theorem dX7_known_21 : decode cX7_known 21 = .ok (.iadd, 1) := by decide +kernel
theorem dX7_known_22 : decode cX7_known 22 = .ok (.istore_n 2, 1) := by decide +kernel
theorem dX7_known_23 : decode cX7_known 23 = .ok (.iinc 3 1, 3) := by decide +kernel
theorem dX7_known_26 : decode cX7_known 26 = .ok (.goto (-22), 3) := by decide +kernel
theorem dX7_known_29 : decode cX7_known 29 = .ok (.iload_n 2, 1) := by decide +kernel
theorem dX7_known_30 : decode cX7_known 30 = .ok (.ireturn, 1) := by decide +kernel
theorem dX7_comes_0 : decode cX7_comes 0 = .ok (.aload_n 0, 1) := by decide +kernel
theorem dX7_comes_1 : decode cX7_comes 1 = .ok (.getfield 7, 3) := by decide +kernel
theorem dX7_comes_4 : decode cX7_comes 4 = .ok (.bipush 6, 2) := by decide +kernel
theorem dX7_comes_6 : decode cX7_comes 6 = .ok (.iaload, 1) := by decide +kernel
theorem dX7_comes_7 : decode cX7_comes 7 = .ok (.iconst 4, 1) := by decide +kernel
theorem dX7_comes_8 : decode cX7_comes 8 = .ok (.if_icmp .ne 6, 3) := by decide +kernel
theorem dX7_comes_11 : decode cX7_comes 11 = .ok (.bipush (-4), 2) := by decide +kernel
theorem dX7_comes_13 : decode cX7_comes 13 = .ok (.ireturn, 1) := by decide +kernel
theorem dX7_comes_14 : decode cX7_comes 14 = .ok (.aload_n 0, 1) := by decide +kernel
theorem dX7_comes_15 : decode cX7_comes 15 = .ok (.getfield 7, 3) := by decide +kernel
theorem dX7_comes_18 : decode cX7_comes 18 = .ok (.bipush 6, 2) := by decide +kernel
theorem dX7_comes_20 : decode cX7_comes 20 = .ok (.iaload, 1) := by decide +kernel
theorem dX7_comes_21 : decode cX7_comes 21 = .ok (.invokestatic 47, 3) := by decide +kernel
theorem dX7_comes_24 : decode cX7_comes 24 = .ok (.istore_n 1, 1) := by decide +kernel
theorem dX7_comes_25 : decode cX7_comes 25 = .ok (.iconst 0, 1) := by decide +kernel
theorem dX7_comes_26 : decode cX7_comes 26 = .ok (.istore_n 2, 1) := by decide +kernel
theorem dX7_comes_27 : decode cX7_comes 27 = .ok (.iload_n 2, 1) := by decide +kernel
theorem dX7_comes_28 : decode cX7_comes 28 = .ok (.iconst 5, 1) := by decide +kernel
theorem dX7_comes_29 : decode cX7_comes 29 = .ok (.if_icmp .ge 18, 3) := by decide +kernel
theorem dX7_comes_32 : decode cX7_comes 32 = .ok (.aload_n 0, 1) := by decide +kernel
theorem dX7_comes_33 : decode cX7_comes 33 = .ok (.getfield 7, 3) := by decide +kernel
theorem dX7_comes_36 : decode cX7_comes 36 = .ok (.iload_n 1, 1) := by decide +kernel
theorem dX7_comes_37 : decode cX7_comes 37 = .ok (.iload_n 2, 1) := by decide +kernel
theorem dX7_comes_38 : decode cX7_comes 38 = .ok (.iadd, 1) := by decide +kernel
theorem dX7_comes_39 : decode cX7_comes 39 = .ok (.iconst 0, 1) := by decide +kernel
theorem dX7_comes_40 : decode cX7_comes 40 = .ok (.iastore, 1) := by decide +kernel
theorem dX7_comes_41 : decode cX7_comes 41 = .ok (.iinc 2 1, 3) := by decide +kernel
theorem dX7_comes_44 : decode cX7_comes 44 = .ok (.goto (-17), 3) := by decide +kernel
theorem dX7_comes_47 : decode cX7_comes 47 = .ok (.aload_n 0, 1) := by decide +kernel
theorem dX7_comes_48 : decode cX7_comes 48 = .ok (.getfield 7, 3) := by decide +kernel
theorem dX7_comes_51 : decode cX7_comes 51 = .ok (.iload_n 1, 1) := by decide +kernel
theorem dX7_comes_52 : decode cX7_comes 52 = .ok (.iconst 1, 1) := by decide +kernel
theorem dX7_comes_53 : decode cX7_comes 53 = .ok (.iadd, 1) := by decide +kernel
theorem dX7_comes_54 : decode cX7_comes 54 = .ok (.iconst (-1), 1) := by decide +kernel
theorem dX7_comes_55 : decode cX7_comes 55 = .ok (.iastore, 1) := by decide +kernel
theorem dX7_comes_56 : decode cX7_comes 56 = .ok (.aload_n 0, 1) := by decide +kernel
theorem dX7_comes_57 : decode cX7_comes 57 = .ok (.getfield 7, 3) := by decide +kernel
theorem dX7_comes_60 : decode cX7_comes 60 = .ok (.bipush 6, 2) := by decide +kernel
theorem dX7_comes_62 : decode cX7_comes 62 = .ok (.dup2, 1) := by decide +kernel
theorem dX7_comes_63 : decode cX7_comes 63 = .ok (.iaload, 1) := by decide +kernel
theorem dX7_comes_64 : decode cX7_comes 64 = .ok (.iconst 1, 1) := by decide +kernel
theorem dX7_comes_65 : decode cX7_comes 65 = .ok (.iadd, 1) := by decide +kernel
theorem dX7_comes_66 : decode cX7_comes 66 = .ok (.iastore, 1) := by decide +kernel
theorem dX7_comes_67 : decode cX7_comes 67 = .ok (.aload_n 0, 1) := by decide +kernel
theorem dX7_comes_68 : decode cX7_comes 68 = .ok (.getfield 7, 3) := by decide +kernel
theorem dX7_comes_71 : decode cX7_comes 71 = .ok (.bipush 6, 2) := by decide +kernel
theorem dX7_comes_73 : decode cX7_comes 73 = .ok (.iaload, 1) := by decide +kernel
theorem dX7_comes_74 : decode cX7_comes 74 = .ok (.iconst 1, 1) := by decide +kernel
theorem dX7_comes_75 : decode cX7_comes 75 = .ok (.isub, 1) := by decide +kernel
theorem dX7_comes_76 : decode cX7_comes 76 = .ok (.ireturn, 1) := by decide +kernel
theorem dX7_song_0 : decode cX7_song 0 = .ok (.aload_n 0, 1) := by decide +kernel
theorem dX7_song_1 : decode cX7_song 1 = .ok (.getfield 7, 3) := by decide +kernel
theorem dX7_song_4 : decode cX7_song 4 = .ok (.iconst 5, 1) := by decide +kernel
theorem dX7_song_5 : decode cX7_song 5 = .ok (.iaload, 1) := by decide +kernel
theorem dX7_song_6 : decode cX7_song 6 = .ok (.bipush 8, 2) := by decide +kernel
theorem dX7_song_8 : decode cX7_song 8 = .ok (.if_icmp .ne 6, 3) := by decide +kernel
theorem dX7_song_11 : decode cX7_song 11 = .ok (.bipush (-4), 2) := by decide +kernel
theorem dX7_song_13 : decode cX7_song 13 = .ok (.ireturn, 1) := by decide +kernel
theorem dX7_song_14 : decode cX7_song 14 = .ok (.aload_n 0, 1) := by decide +kernel
theorem dX7_song_15 : decode cX7_song 15 = .ok (.getfield 7, 3) := by decide +kernel
theorem dX7_song_18 : decode cX7_song 18 = .ok (.iconst 5, 1) := by decide +kernel
theorem dX7_song_19 : decode cX7_song 19 = .ok (.iaload, 1) := by decide +kernel
theorem dX7_song_20 : decode cX7_song 20 = .ok (.invokestatic 68, 3) := by decide +kernel
theorem dX7_song_23 : decode cX7_song 23 = .ok (.istore_n 3, 1) := by decide +kernel
theorem dX7_song_24 : decode cX7_song 24 = .ok (.aload_n 0, 1) := by decide +kernel
theorem dX7_song_25 : decode cX7_song 25 = .ok (.getfield 7, 3) := by decide +kernel
theorem dX7_song_28 : decode cX7_song 28 = .ok (.iload_n 3, 1) := by decide +kernel
theorem dX7_song_29 : decode cX7_song 29 = .ok (.iload_n 2, 1) := by decide +kernel
theorem dX7_song_30 : decode cX7_song 30 = .ok (.iastore, 1) := by decide +kernel
theorem dX7_song_31 : decode cX7_song 31 = .ok (.aload_n 0, 1) := by decide +kernel
theorem dX7_song_32 : decode cX7_song 32 = .ok (.getfield 7, 3) := by decide +kernel
theorem dX7_song_35 : decode cX7_song 35 = .ok (.iload_n 3, 1) := by decide +kernel
theorem dX7_song_36 : decode cX7_song 36 = .ok (.iconst 1, 1) := by decide +kernel
theorem dX7_song_37 : decode cX7_song 37 = .ok (.iadd, 1) := by decide +kernel
theorem dX7_song_38 : decode cX7_song 38 = .ok (.iconst 0, 1) := by decide +kernel
theorem dX7_song_39 : decode cX7_song 39 = .ok (.iastore, 1) := by decide +kernel
theorem dX7_song_40 : decode cX7_song 40 = .ok (.iconst 0, 1) := by decide +kernel
theorem dX7_song_41 : decode cX7_song 41 = .ok (.istore 4, 2) := by decide +kernel
theorem dX7_song_43 : decode cX7_song 43 = .ok (.iload 4, 2) := by decide +kernel
theorem dX7_song_45 : decode cX7_song 45 = .ok (.iload_n 2, 1) := by decide +kernel
theorem dX7_song_46 : decode cX7_song 46 = .ok (.if_icmp .ge 32, 3) := by decide +kernel
theorem dX7_song_49 : decode cX7_song 49 = .ok (.aload_n 0, 1) := by decide +kernel
theorem dX7_song_50 : decode cX7_song 50 = .ok (.getfield 7, 3) := by decide +kernel
theorem dX7_song_53 : decode cX7_song 53 = .ok (.iload_n 3, 1) := by decide +kernel
theorem dX7_song_54 : decode cX7_song 54 = .ok (.iconst 2, 1) := by decide +kernel
theorem dX7_song_55 : decode cX7_song 55 = .ok (.iadd, 1) := by decide +kernel
theorem dX7_song_56 : decode cX7_song 56 = .ok (.iload 4, 2) := by decide +kernel
theorem dX7_song_58 : decode cX7_song 58 = .ok (.iadd, 1) := by decide +kernel
theorem dX7_song_59 : decode cX7_song 59 = .ok (.aload_n 0, 1) := by decide +kernel
theorem dX7_song_60 : decode cX7_song 60 = .ok (.getfield 35, 3) := by decide +kernel
theorem dX7_song_63 : decode cX7_song 63 = .ok (.iload_n 1, 1) := by decide +kernel
theorem dX7_song_64 : decode cX7_song 64 = .ok (.iload 4, 2) := by decide +kernel
theorem dX7_song_66 : decode cX7_song 66 = .ok (.iadd, 1) := by decide +kernel
theorem dX7_song_67 : decode cX7_song 67 = .ok (.caload, 1) := by decide +kernel
theorem dX7_song_68 : decode cX7_song 68 = .ok (.bipush 97, 2) := by decide +kernel
theorem dX7_song_70 : decode cX7_song 70 = .ok (.isub, 1) := by decide +kernel
theorem dX7_song_71 : decode cX7_song 71 = .ok (.iastore, 1) := by decide +kernel
theorem dX7_song_72 : decode cX7_song 72 = .ok (.iinc 4 1, 3) := by decide +kernel
theorem dX7_song_75 : decode cX7_song 75 = .ok (.goto (-32), 3) := by decide +kernel
theorem dX7_song_78 : decode cX7_song 78 = .ok (.aload_n 0, 1) := by decide +kernel
theorem dX7_song_79 : decode cX7_song 79 = .ok (.getfield 7, 3) := by decide +kernel
theorem dX7_song_82 : decode cX7_song 82 = .ok (.iconst 5, 1) := by decide +kernel
theorem dX7_song_83 : decode cX7_song 83 = .ok (.dup2, 1) := by decide +kernel
theorem dX7_song_84 : decode cX7_song 84 = .ok (.iaload, 1) := by decide +kernel
theorem dX7_song_85 : decode cX7_song 85 = .ok (.iconst 1, 1) := by decide +kernel
theorem dX7_song_86 : decode cX7_song 86 = .ok (.iadd, 1) := by decide +kernel
theorem dX7_song_87 : decode cX7_song 87 = .ok (.iastore, 1) := by decide +kernel
theorem dX7_song_88 : decode cX7_song 88 = .ok (.aload_n 0, 1) := by decide +kernel
theorem dX7_song_89 : decode cX7_song 89 = .ok (.getfield 7, 3) := by decide +kernel
theorem dX7_song_92 : decode cX7_song 92 = .ok (.iconst 5, 1) := by decide +kernel
theorem dX7_song_93 : decode cX7_song 93 = .ok (.iaload, 1) := by decide +kernel
theorem dX7_song_94 : decode cX7_song 94 = .ok (.iconst 1, 1) := by decide +kernel
theorem dX7_song_95 : decode cX7_song 95 = .ok (.isub, 1) := by decide +kernel
theorem dX7_song_96 : decode cX7_song 96 = .ok (.ireturn, 1) := by decide +kernel
theorem dX7_teaches_0 : decode cX7_teaches 0 = .ok (.aload_n 0, 1) := by decide +kernel
theorem dX7_teaches_1 : decode cX7_teaches 1 = .ok (.iload_n 1, 1) := by decide +kernel
theorem dX7_teaches_2 : decode cX7_teaches 2 = .ok (.invokevirtual 80, 3) := by decide +kernel
theorem dX7_teaches_5 : decode cX7_teaches 5 = .ok (.ifCond .eq 11, 3) := by decide +kernel
theorem dX7_teaches_8 : decode cX7_teaches 8 = .ok (.aload_n 0, 1) := by decide +kernel
theorem dX7_teaches_9 : decode cX7_teaches 9 = .ok (.iload_n 2, 1) := by decide +kernel
theorem dX7_teaches_10 : decode cX7_teaches 10 = .ok (.invokevirtual 84, 3) := by decide +kernel
theorem dX7_teaches_13 : decode cX7_teaches 13 = .ok (.ifCond .ne 5, 3) := by decide +kernel
theorem dX7_teaches_16 : decode cX7_teaches 16 = .ok (.iconst (-1), 1) := by decide +kernel
theorem dX7_teaches_17 : decode cX7_teaches 17 = .ok (.ireturn, 1) := by decide +kernel
theorem dX7_teaches_18 : decode cX7_teaches 18 = .ok (.iload_n 3, 1) := by decide +kernel
theorem dX7_teaches_19 : decode cX7_teaches 19 = .ok (.iconst 0, 1) := by decide +kernel
theorem dX7_teaches_20 : decode cX7_teaches 20 = .ok (.aload_n 0, 1) := by decide +kernel
theorem dX7_teaches_21 : decode cX7_teaches 21 = .ok (.getfield 7, 3) := by decide +kernel
theorem dX7_teaches_24 : decode cX7_teaches 24 = .ok (.iload_n 2, 1) := by decide +kernel
theorem dX7_teaches_25 : decode cX7_teaches 25 = .ok (.invokestatic 68, 3) := by decide +kernel
theorem dX7_teaches_28 : decode cX7_teaches 28 = .ok (.iaload, 1) := by decide +kernel
theorem dX7_teaches_29 : decode cX7_teaches 29 = .ok (.iconst 1, 1) := by decide +kernel
theorem dX7_teaches_30 : decode cX7_teaches 30 = .ok (.isub, 1) := by decide +kernel
theorem dX7_teaches_31 : decode cX7_teaches 31 = .ok (.invokestatic 39, 3) := by decide +kernel
theorem dX7_teaches_34 : decode cX7_teaches 34 = .ok (.ifCond .ne 6, 3) := by decide +kernel
theorem dX7_teaches_37 : decode cX7_teaches 37 = .ok (.bipush (-2), 2) := by decide +kernel
theorem dX7_teaches_39 : decode cX7_teaches 39 = .ok (.ireturn, 1) := by decide +kernel
theorem dX7_teaches_40 : decode cX7_teaches 40 = .ok (.aload_n 0, 1) := by decide +kernel
theorem dX7_teaches_41 : decode cX7_teaches 41 = .ok (.iload_n 1, 1) := by decide +kernel
theorem dX7_teaches_42 : decode cX7_teaches 42 = .ok (.invokevirtual 87, 3) := by decide +kernel
theorem dX7_teaches_45 : decode cX7_teaches 45 = .ok (.ifCond .eq 6, 3) := by decide +kernel
theorem dX7_teaches_48 : decode cX7_teaches 48 = .ok (.bipush (-5), 2) := by decide +kernel
theorem dX7_teaches_50 : decode cX7_teaches 50 = .ok (.ireturn, 1) := by decide +kernel
theorem dX7_teaches_51 : decode cX7_teaches 51 = .ok (.iload_n 3, 1) := by decide +kernel
theorem dX7_teaches_52 : decode cX7_teaches 52 = .ok (.istore 4, 2) := by decide +kernel
theorem dX7_teaches_54 : decode cX7_teaches 54 = .ok (.iload 4, 2) := by decide +kernel
theorem dX7_teaches_56 : decode cX7_teaches 56 = .ok (.aload_n 0, 1) := by decide +kernel
theorem dX7_teaches_57 : decode cX7_teaches 57 = .ok (.getfield 7, 3) := by decide +kernel
theorem dX7_teaches_60 : decode cX7_teaches 60 = .ok (.iload_n 2, 1) := by decide +kernel
theorem dX7_teaches_61 : decode cX7_teaches 61 = .ok (.invokestatic 68, 3) := by decide +kernel
theorem dX7_teaches_64 : decode cX7_teaches 64 = .ok (.iaload, 1) := by decide +kernel
theorem dX7_teaches_65 : decode cX7_teaches 65 = .ok (.if_icmp .ge 36, 3) := by decide +kernel
theorem dX7_teaches_68 : decode cX7_teaches 68 = .ok (.aload_n 0, 1) := by decide +kernel
theorem dX7_teaches_69 : decode cX7_teaches 69 = .ok (.iload_n 1, 1) := by decide +kernel
theorem dX7_teaches_70 : decode cX7_teaches 70 = .ok (.invokevirtual 87, 3) := by decide +kernel
theorem dX7_teaches_73 : decode cX7_teaches 73 = .ok (.ifCond .ne 28, 3) := by decide +kernel
theorem dX7_teaches_76 : decode cX7_teaches 76 = .ok (.aload_n 0, 1) := by decide +kernel
theorem dX7_teaches_77 : decode cX7_teaches 77 = .ok (.iload_n 1, 1) := by decide +kernel
theorem dX7_teaches_78 : decode cX7_teaches 78 = .ok (.aload_n 0, 1) := by decide +kernel
theorem dX7_teaches_79 : decode cX7_teaches 79 = .ok (.getfield 7, 3) := by decide +kernel
theorem dX7_teaches_82 : decode cX7_teaches 82 = .ok (.iload_n 2, 1) := by decide +kernel
theorem dX7_teaches_83 : decode cX7_teaches 83 = .ok (.invokestatic 68, 3) := by decide +kernel
theorem dX7_teaches_86 : decode cX7_teaches 86 = .ok (.iconst 2, 1) := by decide +kernel
theorem dX7_teaches_87 : decode cX7_teaches 87 = .ok (.iadd, 1) := by decide +kernel
theorem dX7_teaches_88 : decode cX7_teaches 88 = .ok (.iload 4, 2) := by decide +kernel
theorem dX7_teaches_90 : decode cX7_teaches 90 = .ok (.iadd, 1) := by decide +kernel
theorem dX7_teaches_91 : decode cX7_teaches 91 = .ok (.iaload, 1) := by decide +kernel
theorem dX7_teaches_92 : decode cX7_teaches 92 = .ok (.invokevirtual 90, 3) := by decide +kernel
theorem dX7_teaches_95 : decode cX7_teaches 95 = .ok (.iinc 4 1, 3) := by decide +kernel
theorem dX7_teaches_98 : decode cX7_teaches 98 = .ok (.goto (-44), 3) := by decide +kernel
theorem dX7_teaches_101 : decode cX7_teaches 101 = .ok (.aload_n 0, 1) := by decide +kernel
theorem dX7_teaches_102 : decode cX7_teaches 102 = .ok (.getfield 7, 3) := by decide +kernel
theorem dX7_teaches_105 : decode cX7_teaches 105 = .ok (.iload_n 2, 1) := by decide +kernel
theorem dX7_teaches_106 : decode cX7_teaches 106 = .ok (.invokestatic 68, 3) := by decide +kernel
theorem dX7_teaches_109 : decode cX7_teaches 109 = .ok (.iconst 1, 1) := by decide +kernel
theorem dX7_teaches_110 : decode cX7_teaches 110 = .ok (.iadd, 1) := by decide +kernel
theorem dX7_teaches_111 : decode cX7_teaches 111 = .ok (.dup2, 1) := by decide +kernel
theorem dX7_teaches_112 : decode cX7_teaches 112 = .ok (.iaload, 1) := by decide +kernel
theorem dX7_teaches_113 : decode cX7_teaches 113 = .ok (.iconst 1, 1) := by decide +kernel
theorem dX7_teaches_114 : decode cX7_teaches 114 = .ok (.iadd, 1) := by decide +kernel
theorem dX7_teaches_115 : decode cX7_teaches 115 = .ok (.iastore, 1) := by decide +kernel
theorem dX7_teaches_116 : decode cX7_teaches 116 = .ok (.aload_n 0, 1) := by decide +kernel
theorem dX7_teaches_117 : decode cX7_teaches 117 = .ok (.getfield 7, 3) := by decide +kernel
theorem dX7_teaches_120 : decode cX7_teaches 120 = .ok (.bipush 7, 2) := by decide +kernel
theorem dX7_teaches_122 : decode cX7_teaches 122 = .ok (.dup2, 1) := by decide +kernel
theorem dX7_teaches_123 : decode cX7_teaches 123 = .ok (.iaload, 1) := by decide +kernel
theorem dX7_teaches_124 : decode cX7_teaches 124 = .ok (.iconst 1, 1) := by decide +kernel
theorem dX7_teaches_125 : decode cX7_teaches 125 = .ok (.iadd, 1) := by decide +kernel
theorem dX7_teaches_126 : decode cX7_teaches 126 = .ok (.iastore, 1) := by decide +kernel
theorem dX7_teaches_127 : decode cX7_teaches 127 = .ok (.iload 4, 2) := by decide +kernel
theorem dX7_teaches_129 : decode cX7_teaches 129 = .ok (.iload_n 3, 1) := by decide +kernel
theorem dX7_teaches_130 : decode cX7_teaches 130 = .ok (.isub, 1) := by decide +kernel
theorem dX7_teaches_131 : decode cX7_teaches 131 = .ok (.ireturn, 1) := by decide +kernel
theorem dX7_hushes_0 : decode cX7_hushes 0 = .ok (.aload_n 0, 1) := by decide +kernel
theorem dX7_hushes_1 : decode cX7_hushes 1 = .ok (.iload_n 1, 1) := by decide +kernel
theorem dX7_hushes_2 : decode cX7_hushes 2 = .ok (.invokevirtual 80, 3) := by decide +kernel
theorem dX7_hushes_5 : decode cX7_hushes 5 = .ok (.ifCond .ne 5, 3) := by decide +kernel
theorem dX7_hushes_8 : decode cX7_hushes 8 = .ok (.iconst (-1), 1) := by decide +kernel
theorem dX7_hushes_9 : decode cX7_hushes 9 = .ok (.ireturn, 1) := by decide +kernel
theorem dX7_hushes_10 : decode cX7_hushes 10 = .ok (.aload_n 0, 1) := by decide +kernel
theorem dX7_hushes_11 : decode cX7_hushes 11 = .ok (.getfield 7, 3) := by decide +kernel
theorem dX7_hushes_14 : decode cX7_hushes 14 = .ok (.iload_n 1, 1) := by decide +kernel
theorem dX7_hushes_15 : decode cX7_hushes 15 = .ok (.invokestatic 47, 3) := by decide +kernel
theorem dX7_hushes_18 : decode cX7_hushes 18 = .ok (.iconst 1, 1) := by decide +kernel
theorem dX7_hushes_19 : decode cX7_hushes 19 = .ok (.iadd, 1) := by decide +kernel
theorem dX7_hushes_20 : decode cX7_hushes 20 = .ok (.iaload, 1) := by decide +kernel
theorem dX7_hushes_21 : decode cX7_hushes 21 = .ok (.istore_n 2, 1) := by decide +kernel
theorem dX7_hushes_22 : decode cX7_hushes 22 = .ok (.aload_n 0, 1) := by decide +kernel
theorem dX7_hushes_23 : decode cX7_hushes 23 = .ok (.getfield 7, 3) := by decide +kernel
theorem dX7_hushes_26 : decode cX7_hushes 26 = .ok (.iload_n 1, 1) := by decide +kernel
theorem dX7_hushes_27 : decode cX7_hushes 27 = .ok (.invokestatic 47, 3) := by decide +kernel
theorem dX7_hushes_30 : decode cX7_hushes 30 = .ok (.iconst 1, 1) := by decide +kernel
theorem dX7_hushes_31 : decode cX7_hushes 31 = .ok (.iadd, 1) := by decide +kernel
theorem dX7_hushes_32 : decode cX7_hushes 32 = .ok (.iconst (-1), 1) := by decide +kernel
theorem dX7_hushes_33 : decode cX7_hushes 33 = .ok (.iastore, 1) := by decide +kernel
theorem dX7_hushes_34 : decode cX7_hushes 34 = .ok (.iload_n 2, 1) := by decide +kernel
theorem dX7_hushes_35 : decode cX7_hushes 35 = .ok (.ifCond .ge 8, 3) := by decide +kernel
theorem dX7_hushes_38 : decode cX7_hushes 38 = .ok (.bipush (-6), 2) := by decide +kernel
theorem dX7_hushes_40 : decode cX7_hushes 40 = .ok (.goto 4, 3) := by decide +kernel
theorem dX7_hushes_43 : decode cX7_hushes 43 = .ok (.iload_n 2, 1) := by decide +kernel
theorem dX7_hushes_44 : decode cX7_hushes 44 = .ok (.ireturn, 1) := by decide +kernel
theorem dX7_practises_0 : decode cX7_practises 0 = .ok (.aload_n 0, 1) := by decide +kernel
theorem dX7_practises_1 : decode cX7_practises 1 = .ok (.iload_n 1, 1) := by decide +kernel
theorem dX7_practises_2 : decode cX7_practises 2 = .ok (.invokevirtual 80, 3) := by decide +kernel
theorem dX7_practises_5 : decode cX7_practises 5 = .ok (.ifCond .ne 5, 3) := by decide +kernel
theorem dX7_practises_8 : decode cX7_practises 8 = .ok (.iconst (-1), 1) := by decide +kernel
theorem dX7_practises_9 : decode cX7_practises 9 = .ok (.ireturn, 1) := by decide +kernel
theorem dX7_practises_10 : decode cX7_practises 10 = .ok (.iload_n 2, 1) := by decide +kernel
theorem dX7_practises_11 : decode cX7_practises 11 = .ok (.iconst 1, 1) := by decide +kernel
theorem dX7_practises_12 : decode cX7_practises 12 = .ok (.bipush 40, 2) := by decide +kernel
theorem dX7_practises_14 : decode cX7_practises 14 = .ok (.invokestatic 39, 3) := by decide +kernel
theorem dX7_practises_17 : decode cX7_practises 17 = .ok (.ifCond .ne 6, 3) := by decide +kernel
theorem dX7_practises_20 : decode cX7_practises 20 = .ok (.bipush (-2), 2) := by decide +kernel
theorem dX7_practises_22 : decode cX7_practises 22 = .ok (.ireturn, 1) := by decide +kernel
theorem dX7_practises_23 : decode cX7_practises 23 = .ok (.aload_n 0, 1) := by decide +kernel
theorem dX7_practises_24 : decode cX7_practises 24 = .ok (.getfield 7, 3) := by decide +kernel
theorem dX7_practises_27 : decode cX7_practises 27 = .ok (.iload_n 1, 1) := by decide +kernel
theorem dX7_practises_28 : decode cX7_practises 28 = .ok (.invokestatic 47, 3) := by decide +kernel
theorem dX7_practises_31 : decode cX7_practises 31 = .ok (.iconst 1, 1) := by decide +kernel
theorem dX7_practises_32 : decode cX7_practises 32 = .ok (.iadd, 1) := by decide +kernel
theorem dX7_practises_33 : decode cX7_practises 33 = .ok (.iaload, 1) := by decide +kernel
theorem dX7_practises_34 : decode cX7_practises 34 = .ok (.ifCond .lt 11, 3) := by decide +kernel
theorem dX7_practises_37 : decode cX7_practises 37 = .ok (.aload_n 0, 1) := by decide +kernel
theorem dX7_practises_38 : decode cX7_practises 38 = .ok (.iload_n 1, 1) := by decide +kernel
theorem dX7_practises_39 : decode cX7_practises 39 = .ok (.invokevirtual 87, 3) := by decide +kernel
theorem dX7_practises_42 : decode cX7_practises 42 = .ok (.ifCond .eq 6, 3) := by decide +kernel
theorem dX7_practises_45 : decode cX7_practises 45 = .ok (.bipush (-5), 2) := by decide +kernel
theorem dX7_practises_47 : decode cX7_practises 47 = .ok (.ireturn, 1) := by decide +kernel
theorem dX7_practises_48 : decode cX7_practises 48 = .ok (.iconst 0, 1) := by decide +kernel
theorem dX7_practises_49 : decode cX7_practises 49 = .ok (.istore_n 3, 1) := by decide +kernel
theorem dX7_practises_50 : decode cX7_practises 50 = .ok (.aload_n 0, 1) := by decide +kernel
theorem dX7_practises_51 : decode cX7_practises 51 = .ok (.iload_n 1, 1) := by decide +kernel
theorem dX7_practises_52 : decode cX7_practises 52 = .ok (.aload_n 0, 1) := by decide +kernel
theorem dX7_practises_53 : decode cX7_practises 53 = .ok (.getfield 7, 3) := by decide +kernel
theorem dX7_practises_56 : decode cX7_practises 56 = .ok (.iload_n 1, 1) := by decide +kernel
theorem dX7_practises_57 : decode cX7_practises 57 = .ok (.invokestatic 47, 3) := by decide +kernel
theorem dX7_practises_60 : decode cX7_practises 60 = .ok (.iconst 1, 1) := by decide +kernel
theorem dX7_practises_61 : decode cX7_practises 61 = .ok (.iadd, 1) := by decide +kernel
theorem dX7_practises_62 : decode cX7_practises 62 = .ok (.iaload, 1) := by decide +kernel
theorem dX7_practises_63 : decode cX7_practises 63 = .ok (.invokevirtual 71, 3) := by decide +kernel
theorem dX7_practises_66 : decode cX7_practises 66 = .ok (.istore 4, 2) := by decide +kernel
theorem dX7_practises_68 : decode cX7_practises 68 = .ok (.iload_n 3, 1) := by decide +kernel
theorem dX7_practises_69 : decode cX7_practises 69 = .ok (.iload_n 2, 1) := by decide +kernel
theorem dX7_practises_70 : decode cX7_practises 70 = .ok (.if_icmp .ge 31, 3) := by decide +kernel
theorem dX7_practises_73 : decode cX7_practises 73 = .ok (.iload 4, 2) := by decide +kernel
theorem dX7_practises_75 : decode cX7_practises 75 = .ok (.ifCond .lt 26, 3) := by decide +kernel
theorem dX7_practises_78 : decode cX7_practises 78 = .ok (.aload_n 0, 1) := by decide +kernel
theorem dX7_practises_79 : decode cX7_practises 79 = .ok (.getfield 29, 3) := by decide +kernel
theorem dX7_practises_82 : decode cX7_practises 82 = .ok (.iload_n 3, 1) := by decide +kernel
theorem dX7_practises_83 : decode cX7_practises 83 = .ok (.iload 4, 2) := by decide +kernel
theorem dX7_practises_85 : decode cX7_practises 85 = .ok (.iastore, 1) := by decide +kernel
theorem dX7_practises_86 : decode cX7_practises 86 = .ok (.iinc 3 1, 3) := by decide +kernel
theorem dX7_practises_89 : decode cX7_practises 89 = .ok (.aload_n 0, 1) := by decide +kernel
theorem dX7_practises_90 : decode cX7_practises 90 = .ok (.iload_n 1, 1) := by decide +kernel
theorem dX7_practises_91 : decode cX7_practises 91 = .ok (.iload 4, 2) := by decide +kernel
theorem dX7_practises_93 : decode cX7_practises 93 = .ok (.invokevirtual 71, 3) := by decide +kernel
theorem dX7_practises_96 : decode cX7_practises 96 = .ok (.istore 4, 2) := by decide +kernel
theorem dX7_practises_98 : decode cX7_practises 98 = .ok (.goto (-30), 3) := by decide +kernel
theorem dX7_practises_101 : decode cX7_practises 101 = .ok (.iconst 0, 1) := by decide +kernel
theorem dX7_practises_102 : decode cX7_practises 102 = .ok (.istore 5, 2) := by decide +kernel
theorem dX7_practises_104 : decode cX7_practises 104 = .ok (.iload 5, 2) := by decide +kernel
theorem dX7_practises_106 : decode cX7_practises 106 = .ok (.aload_n 0, 1) := by decide +kernel
theorem dX7_practises_107 : decode cX7_practises 107 = .ok (.getfield 7, 3) := by decide +kernel
theorem dX7_practises_110 : decode cX7_practises 110 = .ok (.bipush 6, 2) := by decide +kernel
theorem dX7_practises_112 : decode cX7_practises 112 = .ok (.iaload, 1) := by decide +kernel
theorem dX7_practises_113 : decode cX7_practises 113 = .ok (.if_icmp .ge 72, 3) := by decide +kernel
theorem dX7_practises_116 : decode cX7_practises 116 = .ok (.iload 5, 2) := by decide +kernel
theorem dX7_practises_118 : decode cX7_practises 118 = .ok (.ifCond .ne 7, 3) := by decide +kernel
theorem dX7_practises_121 : decode cX7_practises 121 = .ok (.iload_n 1, 1) := by decide +kernel
theorem dX7_practises_122 : decode cX7_practises 122 = .ok (.goto 18, 3) := by decide +kernel
theorem dX7_practises_125 : decode cX7_practises 125 = .ok (.iload 5, 2) := by decide +kernel
theorem dX7_practises_127 : decode cX7_practises 127 = .ok (.iload_n 1, 1) := by decide +kernel
theorem dX7_practises_128 : decode cX7_practises 128 = .ok (.if_icmp .gt 10, 3) := by decide +kernel
theorem dX7_practises_131 : decode cX7_practises 131 = .ok (.iload 5, 2) := by decide +kernel
theorem dX7_practises_133 : decode cX7_practises 133 = .ok (.iconst 1, 1) := by decide +kernel
theorem dX7_practises_134 : decode cX7_practises 134 = .ok (.isub, 1) := by decide +kernel
theorem dX7_practises_135 : decode cX7_practises 135 = .ok (.goto 5, 3) := by decide +kernel
theorem dX7_practises_138 : decode cX7_practises 138 = .ok (.iload 5, 2) := by decide +kernel
theorem dX7_practises_140 : decode cX7_practises 140 = .ok (.istore 6, 2) := by decide +kernel
theorem dX7_practises_142 : decode cX7_practises 142 = .ok (.iconst 0, 1) := by decide +kernel
theorem dX7_practises_143 : decode cX7_practises 143 = .ok (.istore 7, 2) := by decide +kernel
theorem dX7_practises_145 : decode cX7_practises 145 = .ok (.iload 7, 2) := by decide +kernel
theorem dX7_practises_147 : decode cX7_practises 147 = .ok (.iload_n 3, 1) := by decide +kernel
theorem dX7_practises_148 : decode cX7_practises 148 = .ok (.if_icmp .ge 31, 3) := by decide +kernel
theorem dX7_practises_151 : decode cX7_practises 151 = .ok (.aload_n 0, 1) := by decide +kernel
theorem dX7_practises_152 : decode cX7_practises 152 = .ok (.iload 6, 2) := by decide +kernel
theorem dX7_practises_154 : decode cX7_practises 154 = .ok (.invokevirtual 87, 3) := by decide +kernel
theorem dX7_practises_157 : decode cX7_practises 157 = .ok (.ifCond .ne 22, 3) := by decide +kernel
theorem dX7_practises_160 : decode cX7_practises 160 = .ok (.aload_n 0, 1) := by decide +kernel
theorem dX7_practises_161 : decode cX7_practises 161 = .ok (.iload 6, 2) := by decide +kernel
theorem dX7_practises_163 : decode cX7_practises 163 = .ok (.aload_n 0, 1) := by decide +kernel
theorem dX7_practises_164 : decode cX7_practises 164 = .ok (.getfield 29, 3) := by decide +kernel
theorem dX7_practises_167 : decode cX7_practises 167 = .ok (.iload 7, 2) := by decide +kernel
theorem dX7_practises_169 : decode cX7_practises 169 = .ok (.iaload, 1) := by decide +kernel
theorem dX7_practises_170 : decode cX7_practises 170 = .ok (.invokevirtual 90, 3) := by decide +kernel
theorem dX7_practises_173 : decode cX7_practises 173 = .ok (.iinc 7 1, 3) := by decide +kernel
theorem dX7_practises_176 : decode cX7_practises 176 = .ok (.goto (-31), 3) := by decide +kernel
theorem dX7_practises_179 : decode cX7_practises 179 = .ok (.iinc 5 1, 3) := by decide +kernel
theorem dX7_practises_182 : decode cX7_practises 182 = .ok (.goto (-78), 3) := by decide +kernel
theorem dX7_practises_185 : decode cX7_practises 185 = .ok (.iload_n 3, 1) := by decide +kernel
theorem dX7_practises_186 : decode cX7_practises 186 = .ok (.ireturn, 1) := by decide +kernel
theorem dX7_fades_0 : decode cX7_fades 0 = .ok (.iconst 0, 1) := by decide +kernel
theorem dX7_fades_1 : decode cX7_fades 1 = .ok (.istore_n 2, 1) := by decide +kernel
theorem dX7_fades_2 : decode cX7_fades 2 = .ok (.aload_n 0, 1) := by decide +kernel
theorem dX7_fades_3 : decode cX7_fades 3 = .ok (.getfield 7, 3) := by decide +kernel
theorem dX7_fades_6 : decode cX7_fades 6 = .ok (.iload_n 1, 1) := by decide +kernel
theorem dX7_fades_7 : decode cX7_fades 7 = .ok (.invokestatic 47, 3) := by decide +kernel
theorem dX7_fades_10 : decode cX7_fades 10 = .ok (.iaload, 1) := by decide +kernel
theorem dX7_fades_11 : decode cX7_fades 11 = .ok (.iconst 1, 1) := by decide +kernel
theorem dX7_fades_12 : decode cX7_fades 12 = .ok (.isub, 1) := by decide +kernel
theorem dX7_fades_13 : decode cX7_fades 13 = .ok (.istore_n 3, 1) := by decide +kernel
theorem dX7_fades_14 : decode cX7_fades 14 = .ok (.iload_n 3, 1) := by decide +kernel
theorem dX7_fades_15 : decode cX7_fades 15 = .ok (.ifCond .lt 82, 3) := by decide +kernel
theorem dX7_fades_18 : decode cX7_fades 18 = .ok (.iload_n 1, 1) := by decide +kernel
theorem dX7_fades_19 : decode cX7_fades 19 = .ok (.iload_n 3, 1) := by decide +kernel
theorem dX7_fades_20 : decode cX7_fades 20 = .ok (.invokestatic 51, 3) := by decide +kernel
theorem dX7_fades_23 : decode cX7_fades 23 = .ok (.istore 4, 2) := by decide +kernel
theorem dX7_fades_25 : decode cX7_fades 25 = .ok (.aload_n 0, 1) := by decide +kernel
theorem dX7_fades_26 : decode cX7_fades 26 = .ok (.getfield 7, 3) := by decide +kernel
theorem dX7_fades_29 : decode cX7_fades 29 = .ok (.iload 4, 2) := by decide +kernel
theorem dX7_fades_31 : decode cX7_fades 31 = .ok (.iconst 1, 1) := by decide +kernel
theorem dX7_fades_32 : decode cX7_fades 32 = .ok (.iadd, 1) := by decide +kernel
theorem dX7_fades_33 : decode cX7_fades 33 = .ok (.dup2, 1) := by decide +kernel
theorem dX7_fades_34 : decode cX7_fades 34 = .ok (.iaload, 1) := by decide +kernel
theorem dX7_fades_35 : decode cX7_fades 35 = .ok (.aload_n 0, 1) := by decide +kernel
theorem dX7_fades_36 : decode cX7_fades 36 = .ok (.getfield 7, 3) := by decide +kernel
theorem dX7_fades_39 : decode cX7_fades 39 = .ok (.iload 4, 2) := by decide +kernel
theorem dX7_fades_41 : decode cX7_fades 41 = .ok (.iconst 2, 1) := by decide +kernel
theorem dX7_fades_42 : decode cX7_fades 42 = .ok (.iadd, 1) := by decide +kernel
theorem dX7_fades_43 : decode cX7_fades 43 = .ok (.iaload, 1) := by decide +kernel
theorem dX7_fades_44 : decode cX7_fades 44 = .ok (.ifCond .ne 12, 3) := by decide +kernel
theorem dX7_fades_47 : decode cX7_fades 47 = .ok (.aload_n 0, 1) := by decide +kernel
theorem dX7_fades_48 : decode cX7_fades 48 = .ok (.getfield 7, 3) := by decide +kernel
theorem dX7_fades_51 : decode cX7_fades 51 = .ok (.iconst 1, 1) := by decide +kernel
theorem dX7_fades_52 : decode cX7_fades 52 = .ok (.iaload, 1) := by decide +kernel
theorem dX7_fades_53 : decode cX7_fades 53 = .ok (.goto 4, 3) := by decide +kernel
theorem dX7_fades_56 : decode cX7_fades 56 = .ok (.iconst 0, 1) := by decide +kernel
theorem dX7_fades_57 : decode cX7_fades 57 = .ok (.isub, 1) := by decide +kernel
theorem dX7_fades_58 : decode cX7_fades 58 = .ok (.iastore, 1) := by decide +kernel
theorem dX7_fades_59 : decode cX7_fades 59 = .ok (.aload_n 0, 1) := by decide +kernel
theorem dX7_fades_60 : decode cX7_fades 60 = .ok (.getfield 7, 3) := by decide +kernel
theorem dX7_fades_63 : decode cX7_fades 63 = .ok (.iload 4, 2) := by decide +kernel
theorem dX7_fades_65 : decode cX7_fades 65 = .ok (.iconst 2, 1) := by decide +kernel
theorem dX7_fades_66 : decode cX7_fades 66 = .ok (.iadd, 1) := by decide +kernel
theorem dX7_fades_67 : decode cX7_fades 67 = .ok (.iconst 0, 1) := by decide +kernel
theorem dX7_fades_68 : decode cX7_fades 68 = .ok (.iastore, 1) := by decide +kernel
theorem dX7_fades_69 : decode cX7_fades 69 = .ok (.aload_n 0, 1) := by decide +kernel
theorem dX7_fades_70 : decode cX7_fades 70 = .ok (.getfield 7, 3) := by decide +kernel
theorem dX7_fades_73 : decode cX7_fades 73 = .ok (.iload 4, 2) := by decide +kernel
theorem dX7_fades_75 : decode cX7_fades 75 = .ok (.iconst 1, 1) := by decide +kernel
theorem dX7_fades_76 : decode cX7_fades 76 = .ok (.iadd, 1) := by decide +kernel
theorem dX7_fades_77 : decode cX7_fades 77 = .ok (.iaload, 1) := by decide +kernel
theorem dX7_fades_78 : decode cX7_fades 78 = .ok (.iconst 1, 1) := by decide +kernel
theorem dX7_fades_79 : decode cX7_fades 79 = .ok (.if_icmp .ge 12, 3) := by decide +kernel
theorem dX7_fades_82 : decode cX7_fades 82 = .ok (.aload_n 0, 1) := by decide +kernel
theorem dX7_fades_83 : decode cX7_fades 83 = .ok (.iload_n 1, 1) := by decide +kernel
theorem dX7_fades_84 : decode cX7_fades 84 = .ok (.iload_n 3, 1) := by decide +kernel
theorem dX7_fades_85 : decode cX7_fades 85 = .ok (.invokevirtual 58, 3) := by decide +kernel
theorem dX7_fades_88 : decode cX7_fades 88 = .ok (.iinc 2 1, 3) := by decide +kernel
theorem dX7_fades_91 : decode cX7_fades 91 = .ok (.iinc 3 (-1), 3) := by decide +kernel
theorem dX7_fades_94 : decode cX7_fades 94 = .ok (.goto (-80), 3) := by decide +kernel
theorem dX7_fades_97 : decode cX7_fades 97 = .ok (.aload_n 0, 1) := by decide +kernel
theorem dX7_fades_98 : decode cX7_fades 98 = .ok (.getfield 7, 3) := by decide +kernel
theorem dX7_fades_101 : decode cX7_fades 101 = .ok (.iload_n 1, 1) := by decide +kernel
theorem dX7_fades_102 : decode cX7_fades 102 = .ok (.invokestatic 47, 3) := by decide +kernel
theorem dX7_fades_105 : decode cX7_fades 105 = .ok (.iconst 4, 1) := by decide +kernel
theorem dX7_fades_106 : decode cX7_fades 106 = .ok (.iadd, 1) := by decide +kernel
theorem dX7_fades_107 : decode cX7_fades 107 = .ok (.dup2, 1) := by decide +kernel
theorem dX7_fades_108 : decode cX7_fades 108 = .ok (.iaload, 1) := by decide +kernel
theorem dX7_fades_109 : decode cX7_fades 109 = .ok (.iload_n 2, 1) := by decide +kernel
theorem dX7_fades_110 : decode cX7_fades 110 = .ok (.iadd, 1) := by decide +kernel
theorem dX7_fades_111 : decode cX7_fades 111 = .ok (.iastore, 1) := by decide +kernel
theorem dX7_fades_112 : decode cX7_fades 112 = .ok (.aload_n 0, 1) := by decide +kernel
theorem dX7_fades_113 : decode cX7_fades 113 = .ok (.getfield 7, 3) := by decide +kernel
theorem dX7_fades_116 : decode cX7_fades 116 = .ok (.iload_n 1, 1) := by decide +kernel
theorem dX7_fades_117 : decode cX7_fades 117 = .ok (.invokestatic 47, 3) := by decide +kernel
theorem dX7_fades_120 : decode cX7_fades 120 = .ok (.iconst 1, 1) := by decide +kernel
theorem dX7_fades_121 : decode cX7_fades 121 = .ok (.iadd, 1) := by decide +kernel
theorem dX7_fades_122 : decode cX7_fades 122 = .ok (.iconst (-1), 1) := by decide +kernel
theorem dX7_fades_123 : decode cX7_fades 123 = .ok (.iastore, 1) := by decide +kernel
theorem dX7_fades_124 : decode cX7_fades 124 = .ok (.aload_n 0, 1) := by decide +kernel
theorem dX7_fades_125 : decode cX7_fades 125 = .ok (.getfield 7, 3) := by decide +kernel
theorem dX7_fades_128 : decode cX7_fades 128 = .ok (.iload_n 1, 1) := by decide +kernel
theorem dX7_fades_129 : decode cX7_fades 129 = .ok (.invokestatic 47, 3) := by decide +kernel
theorem dX7_fades_132 : decode cX7_fades 132 = .ok (.iconst 2, 1) := by decide +kernel
theorem dX7_fades_133 : decode cX7_fades 133 = .ok (.iadd, 1) := by decide +kernel
theorem dX7_fades_134 : decode cX7_fades 134 = .ok (.iconst 0, 1) := by decide +kernel
theorem dX7_fades_135 : decode cX7_fades 135 = .ok (.iastore, 1) := by decide +kernel
theorem dX7_fades_136 : decode cX7_fades 136 = .ok (.iload_n 2, 1) := by decide +kernel
theorem dX7_fades_137 : decode cX7_fades 137 = .ok (.ireturn, 1) := by decide +kernel
theorem dX7_nights_0 : decode cX7_nights 0 = .ok (.iconst 0, 1) := by decide +kernel
theorem dX7_nights_1 : decode cX7_nights 1 = .ok (.istore_n 1, 1) := by decide +kernel
theorem dX7_nights_2 : decode cX7_nights 2 = .ok (.iconst 0, 1) := by decide +kernel
theorem dX7_nights_3 : decode cX7_nights 3 = .ok (.istore_n 2, 1) := by decide +kernel
theorem dX7_nights_4 : decode cX7_nights 4 = .ok (.iload_n 2, 1) := by decide +kernel
theorem dX7_nights_5 : decode cX7_nights 5 = .ok (.aload_n 0, 1) := by decide +kernel
theorem dX7_nights_6 : decode cX7_nights 6 = .ok (.getfield 7, 3) := by decide +kernel
theorem dX7_nights_9 : decode cX7_nights 9 = .ok (.bipush 6, 2) := by decide +kernel
theorem dX7_nights_11 : decode cX7_nights 11 = .ok (.iaload, 1) := by decide +kernel
theorem dX7_nights_12 : decode cX7_nights 12 = .ok (.if_icmp .ge 17, 3) := by decide +kernel
theorem dX7_nights_15 : decode cX7_nights 15 = .ok (.iload_n 1, 1) := by decide +kernel
theorem dX7_nights_16 : decode cX7_nights 16 = .ok (.aload_n 0, 1) := by decide +kernel
theorem dX7_nights_17 : decode cX7_nights 17 = .ok (.iload_n 2, 1) := by decide +kernel
theorem dX7_nights_18 : decode cX7_nights 18 = .ok (.invokevirtual 93, 3) := by decide +kernel
theorem dX7_nights_21 : decode cX7_nights 21 = .ok (.iadd, 1) := by decide +kernel
theorem dX7_nights_22 : decode cX7_nights 22 = .ok (.istore_n 1, 1) := by decide +kernel
theorem dX7_nights_23 : decode cX7_nights 23 = .ok (.iinc 2 1, 3) := by decide +kernel
theorem dX7_nights_26 : decode cX7_nights 26 = .ok (.goto (-22), 3) := by decide +kernel
theorem dX7_nights_29 : decode cX7_nights 29 = .ok (.aload_n 0, 1) := by decide +kernel
theorem dX7_nights_30 : decode cX7_nights 30 = .ok (.getfield 7, 3) := by decide +kernel
theorem dX7_nights_33 : decode cX7_nights 33 = .ok (.iconst 4, 1) := by decide +kernel
theorem dX7_nights_34 : decode cX7_nights 34 = .ok (.dup2, 1) := by decide +kernel
theorem dX7_nights_35 : decode cX7_nights 35 = .ok (.iaload, 1) := by decide +kernel
theorem dX7_nights_36 : decode cX7_nights 36 = .ok (.iconst 1, 1) := by decide +kernel
theorem dX7_nights_37 : decode cX7_nights 37 = .ok (.iadd, 1) := by decide +kernel
theorem dX7_nights_38 : decode cX7_nights 38 = .ok (.iastore, 1) := by decide +kernel
theorem dX7_nights_39 : decode cX7_nights 39 = .ok (.iload_n 1, 1) := by decide +kernel
theorem dX7_nights_40 : decode cX7_nights 40 = .ok (.ireturn, 1) := by decide +kernel
theorem dX7_ends_0 : decode cX7_ends 0 = .ok (.aload_n 0, 1) := by decide +kernel
theorem dX7_ends_1 : decode cX7_ends 1 = .ok (.getfield 7, 3) := by decide +kernel
theorem dX7_ends_4 : decode cX7_ends 4 = .ok (.iconst 4, 1) := by decide +kernel
theorem dX7_ends_5 : decode cX7_ends 5 = .ok (.iaload, 1) := by decide +kernel
theorem dX7_ends_6 : decode cX7_ends 6 = .ok (.sipush 999, 3) := by decide +kernel
theorem dX7_ends_9 : decode cX7_ends 9 = .ok (.if_icmp .ne 8, 3) := by decide +kernel
theorem dX7_ends_12 : decode cX7_ends 12 = .ok (.bipush (-5), 2) := by decide +kernel
theorem dX7_ends_14 : decode cX7_ends 14 = .ok (.goto 7, 3) := by decide +kernel
theorem dX7_ends_17 : decode cX7_ends 17 = .ok (.aload_n 0, 1) := by decide +kernel
theorem dX7_ends_18 : decode cX7_ends 18 = .ok (.invokevirtual 96, 3) := by decide +kernel
theorem dX7_ends_21 : decode cX7_ends 21 = .ok (.ireturn, 1) := by decide +kernel
theorem dX7_set_0 : decode cX7_set 0 = .ok (.iload_n 1, 1) := by decide +kernel
theorem dX7_set_1 : decode cX7_set 1 = .ok (.ifCond .ne 13, 3) := by decide +kernel
theorem dX7_set_4 : decode cX7_set 4 = .ok (.iload_n 2, 1) := by decide +kernel
theorem dX7_set_5 : decode cX7_set 5 = .ok (.iconst 4, 1) := by decide +kernel
theorem dX7_set_6 : decode cX7_set 6 = .ok (.bipush 60, 2) := by decide +kernel
theorem dX7_set_8 : decode cX7_set 8 = .ok (.invokestatic 39, 3) := by decide +kernel
theorem dX7_set_11 : decode cX7_set 11 = .ok (.goto 51, 3) := by decide +kernel
theorem dX7_set_14 : decode cX7_set 14 = .ok (.iload_n 1, 1) := by decide +kernel
theorem dX7_set_15 : decode cX7_set 15 = .ok (.iconst 1, 1) := by decide +kernel
theorem dX7_set_16 : decode cX7_set 16 = .ok (.if_icmp .ne 12, 3) := by decide +kernel
theorem dX7_set_19 : decode cX7_set 19 = .ok (.iload_n 2, 1) := by decide +kernel
theorem dX7_set_20 : decode cX7_set 20 = .ok (.iconst 0, 1) := by decide +kernel
theorem dX7_set_21 : decode cX7_set 21 = .ok (.iconst 3, 1) := by decide +kernel
theorem dX7_set_22 : decode cX7_set 22 = .ok (.invokestatic 39, 3) := by decide +kernel
theorem dX7_set_25 : decode cX7_set 25 = .ok (.goto 37, 3) := by decide +kernel
theorem dX7_set_28 : decode cX7_set 28 = .ok (.iload_n 1, 1) := by decide +kernel
theorem dX7_set_29 : decode cX7_set 29 = .ok (.iconst 2, 1) := by decide +kernel
theorem dX7_set_30 : decode cX7_set 30 = .ok (.if_icmp .ne 12, 3) := by decide +kernel
theorem dX7_set_33 : decode cX7_set 33 = .ok (.iload_n 2, 1) := by decide +kernel
theorem dX7_set_34 : decode cX7_set 34 = .ok (.iconst 1, 1) := by decide +kernel
theorem dX7_set_35 : decode cX7_set 35 = .ok (.iconst 3, 1) := by decide +kernel
theorem dX7_set_36 : decode cX7_set 36 = .ok (.invokestatic 39, 3) := by decide +kernel
theorem dX7_set_39 : decode cX7_set 39 = .ok (.goto 23, 3) := by decide +kernel
theorem dX7_set_42 : decode cX7_set 42 = .ok (.iload_n 1, 1) := by decide +kernel
theorem dX7_set_43 : decode cX7_set 43 = .ok (.iconst 3, 1) := by decide +kernel
theorem dX7_set_44 : decode cX7_set 44 = .ok (.if_icmp .ne 17, 3) := by decide +kernel
theorem dX7_set_47 : decode cX7_set 47 = .ok (.iload_n 2, 1) := by decide +kernel
theorem dX7_set_48 : decode cX7_set 48 = .ok (.iconst 1, 1) := by decide +kernel
theorem dX7_set_49 : decode cX7_set 49 = .ok (.bipush 60, 2) := by decide +kernel
theorem dX7_set_51 : decode cX7_set 51 = .ok (.invokestatic 39, 3) := by decide +kernel
theorem dX7_set_54 : decode cX7_set 54 = .ok (.ifCond .eq 7, 3) := by decide +kernel
theorem dX7_set_57 : decode cX7_set 57 = .ok (.iconst 1, 1) := by decide +kernel
theorem dX7_set_58 : decode cX7_set 58 = .ok (.goto 4, 3) := by decide +kernel
theorem dX7_set_61 : decode cX7_set 61 = .ok (.iconst 0, 1) := by decide +kernel
theorem dX7_set_62 : decode cX7_set 62 = .ok (.istore_n 3, 1) := by decide +kernel
theorem dX7_set_63 : decode cX7_set 63 = .ok (.iload_n 3, 1) := by decide +kernel
theorem dX7_set_64 : decode cX7_set 64 = .ok (.ifCond .ne 6, 3) := by decide +kernel
theorem dX7_set_67 : decode cX7_set 67 = .ok (.bipush (-2), 2) := by decide +kernel
theorem dX7_set_69 : decode cX7_set 69 = .ok (.ireturn, 1) := by decide +kernel
theorem dX7_set_70 : decode cX7_set 70 = .ok (.aload_n 0, 1) := by decide +kernel
theorem dX7_set_71 : decode cX7_set 71 = .ok (.invokevirtual 100, 3) := by decide +kernel
theorem dX7_set_74 : decode cX7_set 74 = .ok (.aload_n 0, 1) := by decide +kernel
theorem dX7_set_75 : decode cX7_set 75 = .ok (.getfield 7, 3) := by decide +kernel
theorem dX7_set_78 : decode cX7_set 78 = .ok (.iload_n 1, 1) := by decide +kernel
theorem dX7_set_79 : decode cX7_set 79 = .ok (.iaload, 1) := by decide +kernel
theorem dX7_set_80 : decode cX7_set 80 = .ok (.istore 4, 2) := by decide +kernel
theorem dX7_set_82 : decode cX7_set 82 = .ok (.aload_n 0, 1) := by decide +kernel
theorem dX7_set_83 : decode cX7_set 83 = .ok (.getfield 7, 3) := by decide +kernel
theorem dX7_set_86 : decode cX7_set 86 = .ok (.iload_n 1, 1) := by decide +kernel
theorem dX7_set_87 : decode cX7_set 87 = .ok (.iload_n 2, 1) := by decide +kernel
theorem dX7_set_88 : decode cX7_set 88 = .ok (.iastore, 1) := by decide +kernel
theorem dX7_set_89 : decode cX7_set 89 = .ok (.aload_n 0, 1) := by decide +kernel
theorem dX7_set_90 : decode cX7_set 90 = .ok (.iload 4, 2) := by decide +kernel
theorem dX7_set_92 : decode cX7_set 92 = .ok (.invokevirtual 103, 3) := by decide +kernel
theorem dX7_set_95 : decode cX7_set 95 = .ok (.ireturn, 1) := by decide +kernel
theorem dX7_parrot_0 : decode cX7_parrot 0 = .ok (.aload_n 0, 1) := by decide +kernel
theorem dX7_parrot_1 : decode cX7_parrot 1 = .ok (.invokevirtual 100, 3) := by decide +kernel
theorem dX7_parrot_4 : decode cX7_parrot 4 = .ok (.aload_n 0, 1) := by decide +kernel
theorem dX7_parrot_5 : decode cX7_parrot 5 = .ok (.aload_n 0, 1) := by decide +kernel
theorem dX7_parrot_6 : decode cX7_parrot 6 = .ok (.invokevirtual 106, 3) := by decide +kernel
theorem dX7_parrot_9 : decode cX7_parrot 9 = .ok (.invokevirtual 103, 3) := by decide +kernel
theorem dX7_parrot_12 : decode cX7_parrot 12 = .ok (.ireturn, 1) := by decide +kernel
theorem dX7_lesson_0 : decode cX7_lesson 0 = .ok (.aload_n 0, 1) := by decide +kernel
theorem dX7_lesson_1 : decode cX7_lesson 1 = .ok (.invokevirtual 100, 3) := by decide +kernel
theorem dX7_lesson_4 : decode cX7_lesson 4 = .ok (.aload_n 0, 1) := by decide +kernel
theorem dX7_lesson_5 : decode cX7_lesson 5 = .ok (.aload_n 0, 1) := by decide +kernel
theorem dX7_lesson_6 : decode cX7_lesson 6 = .ok (.iload_n 1, 1) := by decide +kernel
theorem dX7_lesson_7 : decode cX7_lesson 7 = .ok (.iload_n 2, 1) := by decide +kernel
theorem dX7_lesson_8 : decode cX7_lesson 8 = .ok (.iload_n 3, 1) := by decide +kernel
theorem dX7_lesson_9 : decode cX7_lesson 9 = .ok (.invokevirtual 109, 3) := by decide +kernel
theorem dX7_lesson_12 : decode cX7_lesson 12 = .ok (.invokevirtual 103, 3) := by decide +kernel
theorem dX7_lesson_15 : decode cX7_lesson 15 = .ok (.ireturn, 1) := by decide +kernel
theorem dX7_hush_0 : decode cX7_hush 0 = .ok (.aload_n 0, 1) := by decide +kernel
theorem dX7_hush_1 : decode cX7_hush 1 = .ok (.invokevirtual 100, 3) := by decide +kernel
theorem dX7_hush_4 : decode cX7_hush 4 = .ok (.aload_n 0, 1) := by decide +kernel
theorem dX7_hush_5 : decode cX7_hush 5 = .ok (.aload_n 0, 1) := by decide +kernel
theorem dX7_hush_6 : decode cX7_hush 6 = .ok (.iload_n 1, 1) := by decide +kernel
theorem dX7_hush_7 : decode cX7_hush 7 = .ok (.invokevirtual 113, 3) := by decide +kernel
theorem dX7_hush_10 : decode cX7_hush 10 = .ok (.invokevirtual 103, 3) := by decide +kernel
theorem dX7_hush_13 : decode cX7_hush 13 = .ok (.ireturn, 1) := by decide +kernel
theorem dX7_practise_0 : decode cX7_practise 0 = .ok (.aload_n 0, 1) := by decide +kernel
theorem dX7_practise_1 : decode cX7_practise 1 = .ok (.invokevirtual 100, 3) := by decide +kernel
theorem dX7_practise_4 : decode cX7_practise 4 = .ok (.aload_n 0, 1) := by decide +kernel
theorem dX7_practise_5 : decode cX7_practise 5 = .ok (.aload_n 0, 1) := by decide +kernel
theorem dX7_practise_6 : decode cX7_practise 6 = .ok (.iload_n 1, 1) := by decide +kernel
theorem dX7_practise_7 : decode cX7_practise 7 = .ok (.iload_n 2, 1) := by decide +kernel
theorem dX7_practise_8 : decode cX7_practise 8 = .ok (.invokevirtual 116, 3) := by decide +kernel
theorem dX7_practise_11 : decode cX7_practise 11 = .ok (.invokevirtual 103, 3) := by decide +kernel
theorem dX7_practise_14 : decode cX7_practise 14 = .ok (.ireturn, 1) := by decide +kernel
theorem dX7_night_0 : decode cX7_night 0 = .ok (.aload_n 0, 1) := by decide +kernel
theorem dX7_night_1 : decode cX7_night 1 = .ok (.invokevirtual 100, 3) := by decide +kernel
theorem dX7_night_4 : decode cX7_night 4 = .ok (.aload_n 0, 1) := by decide +kernel
theorem dX7_night_5 : decode cX7_night 5 = .ok (.aload_n 0, 1) := by decide +kernel
theorem dX7_night_6 : decode cX7_night 6 = .ok (.invokevirtual 119, 3) := by decide +kernel
theorem dX7_night_9 : decode cX7_night 9 = .ok (.invokevirtual 103, 3) := by decide +kernel
theorem dX7_night_12 : decode cX7_night 12 = .ok (.ireturn, 1) := by decide +kernel
theorem dX7_unlike_0 : decode cX7_unlike 0 = .ok (.iconst 0, 1) := by decide +kernel
theorem dX7_unlike_1 : decode cX7_unlike 1 = .ok (.istore_n 2, 1) := by decide +kernel
theorem dX7_unlike_2 : decode cX7_unlike 2 = .ok (.iconst 0, 1) := by decide +kernel
theorem dX7_unlike_3 : decode cX7_unlike 3 = .ok (.istore_n 3, 1) := by decide +kernel
theorem dX7_unlike_4 : decode cX7_unlike 4 = .ok (.iconst 0, 1) := by decide +kernel
theorem dX7_unlike_5 : decode cX7_unlike 5 = .ok (.istore 4, 2) := by decide +kernel
theorem dX7_unlike_7 : decode cX7_unlike 7 = .ok (.iload 4, 2) := by decide +kernel
theorem dX7_unlike_9 : decode cX7_unlike 9 = .ok (.aload_n 0, 1) := by decide +kernel
theorem dX7_unlike_10 : decode cX7_unlike 10 = .ok (.getfield 7, 3) := by decide +kernel
theorem dX7_unlike_13 : decode cX7_unlike 13 = .ok (.iload_n 1, 1) := by decide +kernel
theorem dX7_unlike_14 : decode cX7_unlike 14 = .ok (.invokestatic 68, 3) := by decide +kernel
theorem dX7_unlike_17 : decode cX7_unlike 17 = .ok (.iaload, 1) := by decide +kernel
theorem dX7_unlike_18 : decode cX7_unlike 18 = .ok (.if_icmp .ge 49, 3) := by decide +kernel
theorem dX7_unlike_21 : decode cX7_unlike 21 = .ok (.aload_n 0, 1) := by decide +kernel
theorem dX7_unlike_22 : decode cX7_unlike 22 = .ok (.getfield 7, 3) := by decide +kernel
theorem dX7_unlike_25 : decode cX7_unlike 25 = .ok (.iload_n 1, 1) := by decide +kernel
theorem dX7_unlike_26 : decode cX7_unlike 26 = .ok (.invokestatic 68, 3) := by decide +kernel
theorem dX7_unlike_29 : decode cX7_unlike 29 = .ok (.iconst 2, 1) := by decide +kernel
theorem dX7_unlike_30 : decode cX7_unlike 30 = .ok (.iadd, 1) := by decide +kernel
theorem dX7_unlike_31 : decode cX7_unlike 31 = .ok (.iload 4, 2) := by decide +kernel
theorem dX7_unlike_33 : decode cX7_unlike 33 = .ok (.iadd, 1) := by decide +kernel
theorem dX7_unlike_34 : decode cX7_unlike 34 = .ok (.iaload, 1) := by decide +kernel
theorem dX7_unlike_35 : decode cX7_unlike 35 = .ok (.istore 5, 2) := by decide +kernel
theorem dX7_unlike_37 : decode cX7_unlike 37 = .ok (.iload_n 3, 1) := by decide +kernel
theorem dX7_unlike_38 : decode cX7_unlike 38 = .ok (.iload_n 2, 1) := by decide +kernel
theorem dX7_unlike_39 : decode cX7_unlike 39 = .ok (.iload 5, 2) := by decide +kernel
theorem dX7_unlike_41 : decode cX7_unlike 41 = .ok (.ishr, 1) := by decide +kernel
theorem dX7_unlike_42 : decode cX7_unlike 42 = .ok (.iconst 1, 1) := by decide +kernel
theorem dX7_unlike_43 : decode cX7_unlike 43 = .ok (.iand, 1) := by decide +kernel
theorem dX7_unlike_44 : decode cX7_unlike 44 = .ok (.ifCond .ne 7, 3) := by decide +kernel
theorem dX7_unlike_47 : decode cX7_unlike 47 = .ok (.iconst 1, 1) := by decide +kernel
theorem dX7_unlike_48 : decode cX7_unlike 48 = .ok (.goto 4, 3) := by decide +kernel
theorem dX7_unlike_51 : decode cX7_unlike 51 = .ok (.iconst 0, 1) := by decide +kernel
theorem dX7_unlike_52 : decode cX7_unlike 52 = .ok (.iadd, 1) := by decide +kernel
theorem dX7_unlike_53 : decode cX7_unlike 53 = .ok (.istore_n 3, 1) := by decide +kernel
theorem dX7_unlike_54 : decode cX7_unlike 54 = .ok (.iload_n 2, 1) := by decide +kernel
theorem dX7_unlike_55 : decode cX7_unlike 55 = .ok (.iconst 1, 1) := by decide +kernel
theorem dX7_unlike_56 : decode cX7_unlike 56 = .ok (.iload 5, 2) := by decide +kernel
theorem dX7_unlike_58 : decode cX7_unlike 58 = .ok (.ishl, 1) := by decide +kernel
theorem dX7_unlike_59 : decode cX7_unlike 59 = .ok (.ior, 1) := by decide +kernel
theorem dX7_unlike_60 : decode cX7_unlike 60 = .ok (.istore_n 2, 1) := by decide +kernel
theorem dX7_unlike_61 : decode cX7_unlike 61 = .ok (.iinc 4 1, 3) := by decide +kernel
theorem dX7_unlike_64 : decode cX7_unlike 64 = .ok (.goto (-57), 3) := by decide +kernel
theorem dX7_unlike_67 : decode cX7_unlike 67 = .ok (.iload_n 3, 1) := by decide +kernel
theorem dX7_unlike_68 : decode cX7_unlike 68 = .ok (.ireturn, 1) := by decide +kernel
theorem dX7_knowers_0 : decode cX7_knowers 0 = .ok (.iconst 0, 1) := by decide +kernel
theorem dX7_knowers_1 : decode cX7_knowers 1 = .ok (.istore_n 2, 1) := by decide +kernel
theorem dX7_knowers_2 : decode cX7_knowers 2 = .ok (.iconst 0, 1) := by decide +kernel
theorem dX7_knowers_3 : decode cX7_knowers 3 = .ok (.istore_n 3, 1) := by decide +kernel
theorem dX7_knowers_4 : decode cX7_knowers 4 = .ok (.iload_n 3, 1) := by decide +kernel
theorem dX7_knowers_5 : decode cX7_knowers 5 = .ok (.aload_n 0, 1) := by decide +kernel
theorem dX7_knowers_6 : decode cX7_knowers 6 = .ok (.getfield 7, 3) := by decide +kernel
theorem dX7_knowers_9 : decode cX7_knowers 9 = .ok (.bipush 6, 2) := by decide +kernel
theorem dX7_knowers_11 : decode cX7_knowers 11 = .ok (.iaload, 1) := by decide +kernel
theorem dX7_knowers_12 : decode cX7_knowers 12 = .ok (.if_icmp .ge 30, 3) := by decide +kernel
theorem dX7_knowers_15 : decode cX7_knowers 15 = .ok (.iload_n 2, 1) := by decide +kernel
theorem dX7_knowers_16 : decode cX7_knowers 16 = .ok (.aload_n 0, 1) := by decide +kernel
theorem dX7_knowers_17 : decode cX7_knowers 17 = .ok (.iload_n 3, 1) := by decide +kernel
theorem dX7_knowers_18 : decode cX7_knowers 18 = .ok (.iload_n 1, 1) := by decide +kernel
theorem dX7_knowers_19 : decode cX7_knowers 19 = .ok (.invokevirtual 77, 3) := by decide +kernel
theorem dX7_knowers_22 : decode cX7_knowers 22 = .ok (.bipush 100, 2) := by decide +kernel
theorem dX7_knowers_24 : decode cX7_knowers 24 = .ok (.if_icmp .ne 9, 3) := by decide +kernel
theorem dX7_knowers_27 : decode cX7_knowers 27 = .ok (.iconst 1, 1) := by decide +kernel
theorem dX7_knowers_28 : decode cX7_knowers 28 = .ok (.iload_n 3, 1) := by decide +kernel
theorem dX7_knowers_29 : decode cX7_knowers 29 = .ok (.ishl, 1) := by decide +kernel
theorem dX7_knowers_30 : decode cX7_knowers 30 = .ok (.goto 4, 3) := by decide +kernel
theorem dX7_knowers_33 : decode cX7_knowers 33 = .ok (.iconst 0, 1) := by decide +kernel
theorem dX7_knowers_34 : decode cX7_knowers 34 = .ok (.ior, 1) := by decide +kernel
theorem dX7_knowers_35 : decode cX7_knowers 35 = .ok (.istore_n 2, 1) := by decide +kernel
theorem dX7_knowers_36 : decode cX7_knowers 36 = .ok (.iinc 3 1, 3) := by decide +kernel
theorem dX7_knowers_39 : decode cX7_knowers 39 = .ok (.goto (-35), 3) := by decide +kernel
theorem dX7_knowers_42 : decode cX7_knowers 42 = .ok (.iload_n 2, 1) := by decide +kernel
theorem dX7_knowers_43 : decode cX7_knowers 43 = .ok (.ireturn, 1) := by decide +kernel
theorem dX7_ofSong_0 : decode cX7_ofSong 0 = .ok (.aload_n 0, 1) := by decide +kernel
theorem dX7_ofSong_1 : decode cX7_ofSong 1 = .ok (.iload_n 1, 1) := by decide +kernel
theorem dX7_ofSong_2 : decode cX7_ofSong 2 = .ok (.invokevirtual 84, 3) := by decide +kernel
theorem dX7_ofSong_5 : decode cX7_ofSong 5 = .ok (.ifCond .ne 5, 3) := by decide +kernel
theorem dX7_ofSong_8 : decode cX7_ofSong 8 = .ok (.iconst (-1), 1) := by decide +kernel
theorem dX7_ofSong_9 : decode cX7_ofSong 9 = .ok (.ireturn, 1) := by decide +kernel
theorem dX7_ofSong_10 : decode cX7_ofSong 10 = .ok (.iload_n 2, 1) := by decide +kernel
theorem dX7_ofSong_11 : decode cX7_ofSong 11 = .ok (.tableswitch 105 0 5 #[37, 47, 53, 65, 87, 99], 37) := by decide +kernel
theorem dX7_ofSong_48 : decode cX7_ofSong 48 = .ok (.aload_n 0, 1) := by decide +kernel
theorem dX7_ofSong_49 : decode cX7_ofSong 49 = .ok (.getfield 7, 3) := by decide +kernel
theorem dX7_ofSong_52 : decode cX7_ofSong 52 = .ok (.iload_n 1, 1) := by decide +kernel
theorem dX7_ofSong_53 : decode cX7_ofSong 53 = .ok (.invokestatic 68, 3) := by decide +kernel
theorem dX7_ofSong_56 : decode cX7_ofSong 56 = .ok (.iaload, 1) := by decide +kernel
theorem dX7_ofSong_57 : decode cX7_ofSong 57 = .ok (.ireturn, 1) := by decide +kernel
theorem dX7_ofSong_58 : decode cX7_ofSong 58 = .ok (.aload_n 0, 1) := by decide +kernel
theorem dX7_ofSong_59 : decode cX7_ofSong 59 = .ok (.iload_n 1, 1) := by decide +kernel
theorem dX7_ofSong_60 : decode cX7_ofSong 60 = .ok (.invokevirtual 122, 3) := by decide +kernel
theorem dX7_ofSong_63 : decode cX7_ofSong 63 = .ok (.ireturn, 1) := by decide +kernel
theorem dX7_ofSong_64 : decode cX7_ofSong 64 = .ok (.aload_n 0, 1) := by decide +kernel
theorem dX7_ofSong_65 : decode cX7_ofSong 65 = .ok (.getfield 7, 3) := by decide +kernel
theorem dX7_ofSong_68 : decode cX7_ofSong 68 = .ok (.iload_n 1, 1) := by decide +kernel
theorem dX7_ofSong_69 : decode cX7_ofSong 69 = .ok (.invokestatic 68, 3) := by decide +kernel
theorem dX7_ofSong_72 : decode cX7_ofSong 72 = .ok (.iconst 2, 1) := by decide +kernel
theorem dX7_ofSong_73 : decode cX7_ofSong 73 = .ok (.iadd, 1) := by decide +kernel
theorem dX7_ofSong_74 : decode cX7_ofSong 74 = .ok (.iaload, 1) := by decide +kernel
theorem dX7_ofSong_75 : decode cX7_ofSong 75 = .ok (.ireturn, 1) := by decide +kernel
theorem dX7_ofSong_76 : decode cX7_ofSong 76 = .ok (.aload_n 0, 1) := by decide +kernel
theorem dX7_ofSong_77 : decode cX7_ofSong 77 = .ok (.getfield 7, 3) := by decide +kernel
theorem dX7_ofSong_80 : decode cX7_ofSong 80 = .ok (.iload_n 1, 1) := by decide +kernel
theorem dX7_ofSong_81 : decode cX7_ofSong 81 = .ok (.invokestatic 68, 3) := by decide +kernel
theorem dX7_ofSong_84 : decode cX7_ofSong 84 = .ok (.iconst 1, 1) := by decide +kernel
theorem dX7_ofSong_85 : decode cX7_ofSong 85 = .ok (.iadd, 1) := by decide +kernel
theorem dX7_ofSong_86 : decode cX7_ofSong 86 = .ok (.aload_n 0, 1) := by decide +kernel
theorem dX7_ofSong_87 : decode cX7_ofSong 87 = .ok (.getfield 7, 3) := by decide +kernel
theorem dX7_ofSong_90 : decode cX7_ofSong 90 = .ok (.iload_n 1, 1) := by decide +kernel
theorem dX7_ofSong_91 : decode cX7_ofSong 91 = .ok (.invokestatic 68, 3) := by decide +kernel
theorem dX7_ofSong_94 : decode cX7_ofSong 94 = .ok (.iaload, 1) := by decide +kernel
theorem dX7_ofSong_95 : decode cX7_ofSong 95 = .ok (.iadd, 1) := by decide +kernel
theorem dX7_ofSong_96 : decode cX7_ofSong 96 = .ok (.iaload, 1) := by decide +kernel
theorem dX7_ofSong_97 : decode cX7_ofSong 97 = .ok (.ireturn, 1) := by decide +kernel
theorem dX7_ofSong_98 : decode cX7_ofSong 98 = .ok (.aload_n 0, 1) := by decide +kernel
theorem dX7_ofSong_99 : decode cX7_ofSong 99 = .ok (.getfield 7, 3) := by decide +kernel
theorem dX7_ofSong_102 : decode cX7_ofSong 102 = .ok (.iload_n 1, 1) := by decide +kernel
theorem dX7_ofSong_103 : decode cX7_ofSong 103 = .ok (.invokestatic 68, 3) := by decide +kernel
theorem dX7_ofSong_106 : decode cX7_ofSong 106 = .ok (.iconst 1, 1) := by decide +kernel
theorem dX7_ofSong_107 : decode cX7_ofSong 107 = .ok (.iadd, 1) := by decide +kernel
theorem dX7_ofSong_108 : decode cX7_ofSong 108 = .ok (.iaload, 1) := by decide +kernel
theorem dX7_ofSong_109 : decode cX7_ofSong 109 = .ok (.ireturn, 1) := by decide +kernel
theorem dX7_ofSong_110 : decode cX7_ofSong 110 = .ok (.aload_n 0, 1) := by decide +kernel
theorem dX7_ofSong_111 : decode cX7_ofSong 111 = .ok (.iload_n 1, 1) := by decide +kernel
theorem dX7_ofSong_112 : decode cX7_ofSong 112 = .ok (.invokevirtual 125, 3) := by decide +kernel
theorem dX7_ofSong_115 : decode cX7_ofSong 115 = .ok (.ireturn, 1) := by decide +kernel
theorem dX7_ofSong_116 : decode cX7_ofSong 116 = .ok (.bipush (-2), 2) := by decide +kernel
theorem dX7_ofSong_118 : decode cX7_ofSong 118 = .ok (.ireturn, 1) := by decide +kernel
theorem dX7_bar_0 : decode cX7_bar 0 = .ok (.aload_n 0, 1) := by decide +kernel
theorem dX7_bar_1 : decode cX7_bar 1 = .ok (.iload_n 1, 1) := by decide +kernel
theorem dX7_bar_2 : decode cX7_bar 2 = .ok (.invokevirtual 84, 3) := by decide +kernel
theorem dX7_bar_5 : decode cX7_bar 5 = .ok (.ifCond .eq 38, 3) := by decide +kernel
theorem dX7_bar_8 : decode cX7_bar 8 = .ok (.iload_n 2, 1) := by decide +kernel
theorem dX7_bar_9 : decode cX7_bar 9 = .ok (.iconst 0, 1) := by decide +kernel
theorem dX7_bar_10 : decode cX7_bar 10 = .ok (.aload_n 0, 1) := by decide +kernel
theorem dX7_bar_11 : decode cX7_bar 11 = .ok (.getfield 7, 3) := by decide +kernel
theorem dX7_bar_14 : decode cX7_bar 14 = .ok (.iload_n 1, 1) := by decide +kernel
theorem dX7_bar_15 : decode cX7_bar 15 = .ok (.invokestatic 68, 3) := by decide +kernel
theorem dX7_bar_18 : decode cX7_bar 18 = .ok (.iaload, 1) := by decide +kernel
theorem dX7_bar_19 : decode cX7_bar 19 = .ok (.iconst 1, 1) := by decide +kernel
theorem dX7_bar_20 : decode cX7_bar 20 = .ok (.isub, 1) := by decide +kernel
theorem dX7_bar_21 : decode cX7_bar 21 = .ok (.invokestatic 39, 3) := by decide +kernel
theorem dX7_bar_24 : decode cX7_bar 24 = .ok (.ifCond .eq 19, 3) := by decide +kernel
theorem dX7_bar_27 : decode cX7_bar 27 = .ok (.aload_n 0, 1) := by decide +kernel
theorem dX7_bar_28 : decode cX7_bar 28 = .ok (.getfield 7, 3) := by decide +kernel
theorem dX7_bar_31 : decode cX7_bar 31 = .ok (.iload_n 1, 1) := by decide +kernel
theorem dX7_bar_32 : decode cX7_bar 32 = .ok (.invokestatic 68, 3) := by decide +kernel
theorem dX7_bar_35 : decode cX7_bar 35 = .ok (.iconst 2, 1) := by decide +kernel
theorem dX7_bar_36 : decode cX7_bar 36 = .ok (.iadd, 1) := by decide +kernel
theorem dX7_bar_37 : decode cX7_bar 37 = .ok (.iload_n 2, 1) := by decide +kernel
theorem dX7_bar_38 : decode cX7_bar 38 = .ok (.iadd, 1) := by decide +kernel
theorem dX7_bar_39 : decode cX7_bar 39 = .ok (.iaload, 1) := by decide +kernel
theorem dX7_bar_40 : decode cX7_bar 40 = .ok (.goto 4, 3) := by decide +kernel
theorem dX7_bar_43 : decode cX7_bar 43 = .ok (.iconst (-1), 1) := by decide +kernel
theorem dX7_bar_44 : decode cX7_bar 44 = .ok (.ireturn, 1) := by decide +kernel
theorem dX7_strengths_0 : decode cX7_strengths 0 = .ok (.iconst 0, 1) := by decide +kernel
theorem dX7_strengths_1 : decode cX7_strengths 1 = .ok (.istore_n 2, 1) := by decide +kernel
theorem dX7_strengths_2 : decode cX7_strengths 2 = .ok (.iconst 0, 1) := by decide +kernel
theorem dX7_strengths_3 : decode cX7_strengths 3 = .ok (.istore_n 3, 1) := by decide +kernel
theorem dX7_strengths_4 : decode cX7_strengths 4 = .ok (.iload_n 3, 1) := by decide +kernel
theorem dX7_strengths_5 : decode cX7_strengths 5 = .ok (.aload_n 0, 1) := by decide +kernel
theorem dX7_strengths_6 : decode cX7_strengths 6 = .ok (.getfield 7, 3) := by decide +kernel
theorem dX7_strengths_9 : decode cX7_strengths 9 = .ok (.iload_n 1, 1) := by decide +kernel
theorem dX7_strengths_10 : decode cX7_strengths 10 = .ok (.invokestatic 47, 3) := by decide +kernel
theorem dX7_strengths_13 : decode cX7_strengths 13 = .ok (.iaload, 1) := by decide +kernel
theorem dX7_strengths_14 : decode cX7_strengths 14 = .ok (.if_icmp .ge 24, 3) := by decide +kernel
theorem dX7_strengths_17 : decode cX7_strengths 17 = .ok (.iload_n 2, 1) := by decide +kernel
theorem dX7_strengths_18 : decode cX7_strengths 18 = .ok (.aload_n 0, 1) := by decide +kernel
theorem dX7_strengths_19 : decode cX7_strengths 19 = .ok (.getfield 7, 3) := by decide +kernel
theorem dX7_strengths_22 : decode cX7_strengths 22 = .ok (.iload_n 1, 1) := by decide +kernel
theorem dX7_strengths_23 : decode cX7_strengths 23 = .ok (.iload_n 3, 1) := by decide +kernel
theorem dX7_strengths_24 : decode cX7_strengths 24 = .ok (.invokestatic 51, 3) := by decide +kernel
theorem dX7_strengths_27 : decode cX7_strengths 27 = .ok (.iconst 1, 1) := by decide +kernel
theorem dX7_strengths_28 : decode cX7_strengths 28 = .ok (.iadd, 1) := by decide +kernel
theorem dX7_strengths_29 : decode cX7_strengths 29 = .ok (.iaload, 1) := by decide +kernel
theorem dX7_strengths_30 : decode cX7_strengths 30 = .ok (.iadd, 1) := by decide +kernel
theorem dX7_strengths_31 : decode cX7_strengths 31 = .ok (.istore_n 2, 1) := by decide +kernel
theorem dX7_strengths_32 : decode cX7_strengths 32 = .ok (.iinc 3 1, 3) := by decide +kernel
theorem dX7_strengths_35 : decode cX7_strengths 35 = .ok (.goto (-31), 3) := by decide +kernel
theorem dX7_strengths_38 : decode cX7_strengths 38 = .ok (.iload_n 2, 1) := by decide +kernel
theorem dX7_strengths_39 : decode cX7_strengths 39 = .ok (.ireturn, 1) := by decide +kernel
theorem dX7_songsOf_0 : decode cX7_songsOf 0 = .ok (.iconst 0, 1) := by decide +kernel
theorem dX7_songsOf_1 : decode cX7_songsOf 1 = .ok (.istore_n 2, 1) := by decide +kernel
theorem dX7_songsOf_2 : decode cX7_songsOf 2 = .ok (.iconst 0, 1) := by decide +kernel
theorem dX7_songsOf_3 : decode cX7_songsOf 3 = .ok (.istore_n 3, 1) := by decide +kernel
theorem dX7_songsOf_4 : decode cX7_songsOf 4 = .ok (.iload_n 3, 1) := by decide +kernel
theorem dX7_songsOf_5 : decode cX7_songsOf 5 = .ok (.aload_n 0, 1) := by decide +kernel
theorem dX7_songsOf_6 : decode cX7_songsOf 6 = .ok (.getfield 7, 3) := by decide +kernel
theorem dX7_songsOf_9 : decode cX7_songsOf 9 = .ok (.iconst 5, 1) := by decide +kernel
theorem dX7_songsOf_10 : decode cX7_songsOf 10 = .ok (.iaload, 1) := by decide +kernel
theorem dX7_songsOf_11 : decode cX7_songsOf 11 = .ok (.if_icmp .ge 30, 3) := by decide +kernel
theorem dX7_songsOf_14 : decode cX7_songsOf 14 = .ok (.iload_n 2, 1) := by decide +kernel
theorem dX7_songsOf_15 : decode cX7_songsOf 15 = .ok (.aload_n 0, 1) := by decide +kernel
theorem dX7_songsOf_16 : decode cX7_songsOf 16 = .ok (.iload_n 1, 1) := by decide +kernel
theorem dX7_songsOf_17 : decode cX7_songsOf 17 = .ok (.iload_n 3, 1) := by decide +kernel
theorem dX7_songsOf_18 : decode cX7_songsOf 18 = .ok (.invokevirtual 77, 3) := by decide +kernel
theorem dX7_songsOf_21 : decode cX7_songsOf 21 = .ok (.bipush 100, 2) := by decide +kernel
theorem dX7_songsOf_23 : decode cX7_songsOf 23 = .ok (.if_icmp .ne 9, 3) := by decide +kernel
theorem dX7_songsOf_26 : decode cX7_songsOf 26 = .ok (.iconst 1, 1) := by decide +kernel
theorem dX7_songsOf_27 : decode cX7_songsOf 27 = .ok (.iload_n 3, 1) := by decide +kernel
theorem dX7_songsOf_28 : decode cX7_songsOf 28 = .ok (.ishl, 1) := by decide +kernel
theorem dX7_songsOf_29 : decode cX7_songsOf 29 = .ok (.goto 4, 3) := by decide +kernel
theorem dX7_songsOf_32 : decode cX7_songsOf 32 = .ok (.iconst 0, 1) := by decide +kernel
theorem dX7_songsOf_33 : decode cX7_songsOf 33 = .ok (.ior, 1) := by decide +kernel
theorem dX7_songsOf_34 : decode cX7_songsOf 34 = .ok (.istore_n 2, 1) := by decide +kernel
theorem dX7_songsOf_35 : decode cX7_songsOf 35 = .ok (.iinc 3 1, 3) := by decide +kernel
theorem dX7_songsOf_38 : decode cX7_songsOf 38 = .ok (.goto (-34), 3) := by decide +kernel
theorem dX7_songsOf_41 : decode cX7_songsOf 41 = .ok (.iload_n 2, 1) := by decide +kernel
theorem dX7_songsOf_42 : decode cX7_songsOf 42 = .ok (.ireturn, 1) := by decide +kernel
theorem dX7_of_0 : decode cX7_of 0 = .ok (.aload_n 0, 1) := by decide +kernel
theorem dX7_of_1 : decode cX7_of 1 = .ok (.iload_n 1, 1) := by decide +kernel
theorem dX7_of_2 : decode cX7_of 2 = .ok (.invokevirtual 80, 3) := by decide +kernel
theorem dX7_of_5 : decode cX7_of 5 = .ok (.ifCond .ne 5, 3) := by decide +kernel
theorem dX7_of_8 : decode cX7_of 8 = .ok (.iconst (-1), 1) := by decide +kernel
theorem dX7_of_9 : decode cX7_of 9 = .ok (.ireturn, 1) := by decide +kernel
theorem dX7_of_10 : decode cX7_of 10 = .ok (.iload_n 1, 1) := by decide +kernel
theorem dX7_of_11 : decode cX7_of 11 = .ok (.invokestatic 47, 3) := by decide +kernel
theorem dX7_of_14 : decode cX7_of 14 = .ok (.istore_n 3, 1) := by decide +kernel
theorem dX7_of_15 : decode cX7_of 15 = .ok (.iload_n 2, 1) := by decide +kernel
theorem dX7_of_16 : decode cX7_of 16 = .ok (.tableswitch 99 0 6 #[44, 51, 57, 82, 82, 82, 93], 44) := by decide +kernel
theorem dX7_of_60 : decode cX7_of 60 = .ok (.aload_n 0, 1) := by decide +kernel
theorem dX7_of_61 : decode cX7_of 61 = .ok (.getfield 7, 3) := by decide +kernel
theorem dX7_of_64 : decode cX7_of 64 = .ok (.iload_n 3, 1) := by decide +kernel
theorem dX7_of_65 : decode cX7_of 65 = .ok (.iaload, 1) := by decide +kernel
theorem dX7_of_66 : decode cX7_of 66 = .ok (.ireturn, 1) := by decide +kernel
theorem dX7_of_67 : decode cX7_of 67 = .ok (.aload_n 0, 1) := by decide +kernel
theorem dX7_of_68 : decode cX7_of 68 = .ok (.iload_n 1, 1) := by decide +kernel
theorem dX7_of_69 : decode cX7_of 69 = .ok (.invokevirtual 128, 3) := by decide +kernel
theorem dX7_of_72 : decode cX7_of 72 = .ok (.ireturn, 1) := by decide +kernel
theorem dX7_of_73 : decode cX7_of 73 = .ok (.aload_n 0, 1) := by decide +kernel
theorem dX7_of_74 : decode cX7_of 74 = .ok (.getfield 7, 3) := by decide +kernel
theorem dX7_of_77 : decode cX7_of 77 = .ok (.iload_n 3, 1) := by decide +kernel
theorem dX7_of_78 : decode cX7_of 78 = .ok (.iconst 1, 1) := by decide +kernel
theorem dX7_of_79 : decode cX7_of 79 = .ok (.iadd, 1) := by decide +kernel
theorem dX7_of_80 : decode cX7_of 80 = .ok (.iaload, 1) := by decide +kernel
theorem dX7_of_81 : decode cX7_of 81 = .ok (.ifCond .ge 8, 3) := by decide +kernel
theorem dX7_of_84 : decode cX7_of 84 = .ok (.bipush (-6), 2) := by decide +kernel
theorem dX7_of_86 : decode cX7_of 86 = .ok (.goto 11, 3) := by decide +kernel
theorem dX7_of_89 : decode cX7_of 89 = .ok (.aload_n 0, 1) := by decide +kernel
theorem dX7_of_90 : decode cX7_of 90 = .ok (.getfield 7, 3) := by decide +kernel
theorem dX7_of_93 : decode cX7_of 93 = .ok (.iload_n 3, 1) := by decide +kernel
theorem dX7_of_94 : decode cX7_of 94 = .ok (.iconst 1, 1) := by decide +kernel
theorem dX7_of_95 : decode cX7_of 95 = .ok (.iadd, 1) := by decide +kernel
theorem dX7_of_96 : decode cX7_of 96 = .ok (.iaload, 1) := by decide +kernel
theorem dX7_of_97 : decode cX7_of 97 = .ok (.ireturn, 1) := by decide +kernel
theorem dX7_of_98 : decode cX7_of 98 = .ok (.aload_n 0, 1) := by decide +kernel
theorem dX7_of_99 : decode cX7_of 99 = .ok (.getfield 7, 3) := by decide +kernel
theorem dX7_of_102 : decode cX7_of 102 = .ok (.iload_n 3, 1) := by decide +kernel
theorem dX7_of_103 : decode cX7_of 103 = .ok (.iload_n 2, 1) := by decide +kernel
theorem dX7_of_104 : decode cX7_of 104 = .ok (.iadd, 1) := by decide +kernel
theorem dX7_of_105 : decode cX7_of 105 = .ok (.iconst 1, 1) := by decide +kernel
theorem dX7_of_106 : decode cX7_of 106 = .ok (.isub, 1) := by decide +kernel
theorem dX7_of_107 : decode cX7_of 107 = .ok (.iaload, 1) := by decide +kernel
theorem dX7_of_108 : decode cX7_of 108 = .ok (.ireturn, 1) := by decide +kernel
theorem dX7_of_109 : decode cX7_of 109 = .ok (.aload_n 0, 1) := by decide +kernel
theorem dX7_of_110 : decode cX7_of 110 = .ok (.iload_n 1, 1) := by decide +kernel
theorem dX7_of_111 : decode cX7_of 111 = .ok (.invokevirtual 131, 3) := by decide +kernel
theorem dX7_of_114 : decode cX7_of 114 = .ok (.ireturn, 1) := by decide +kernel
theorem dX7_of_115 : decode cX7_of 115 = .ok (.bipush (-2), 2) := by decide +kernel
theorem dX7_of_117 : decode cX7_of 117 = .ok (.ireturn, 1) := by decide +kernel
theorem dX7_link_0 : decode cX7_link 0 = .ok (.aload_n 0, 1) := by decide +kernel
theorem dX7_link_1 : decode cX7_link 1 = .ok (.iload_n 1, 1) := by decide +kernel
theorem dX7_link_2 : decode cX7_link 2 = .ok (.invokevirtual 80, 3) := by decide +kernel
theorem dX7_link_5 : decode cX7_link 5 = .ok (.ifCond .eq 22, 3) := by decide +kernel
theorem dX7_link_8 : decode cX7_link 8 = .ok (.iload_n 2, 1) := by decide +kernel
theorem dX7_link_9 : decode cX7_link 9 = .ok (.iconst 0, 1) := by decide +kernel
theorem dX7_link_10 : decode cX7_link 10 = .ok (.aload_n 0, 1) := by decide +kernel
theorem dX7_link_11 : decode cX7_link 11 = .ok (.getfield 7, 3) := by decide +kernel
theorem dX7_link_14 : decode cX7_link 14 = .ok (.iload_n 1, 1) := by decide +kernel
theorem dX7_link_15 : decode cX7_link 15 = .ok (.invokestatic 47, 3) := by decide +kernel
theorem dX7_link_18 : decode cX7_link 18 = .ok (.iaload, 1) := by decide +kernel
theorem dX7_link_19 : decode cX7_link 19 = .ok (.iconst 1, 1) := by decide +kernel
theorem dX7_link_20 : decode cX7_link 20 = .ok (.isub, 1) := by decide +kernel
theorem dX7_link_21 : decode cX7_link 21 = .ok (.invokestatic 39, 3) := by decide +kernel
theorem dX7_link_24 : decode cX7_link 24 = .ok (.ifCond .ne 5, 3) := by decide +kernel
theorem dX7_link_27 : decode cX7_link 27 = .ok (.iconst (-1), 1) := by decide +kernel
theorem dX7_link_28 : decode cX7_link 28 = .ok (.ireturn, 1) := by decide +kernel
theorem dX7_link_29 : decode cX7_link 29 = .ok (.iload_n 1, 1) := by decide +kernel
theorem dX7_link_30 : decode cX7_link 30 = .ok (.aload_n 0, 1) := by decide +kernel
theorem dX7_link_31 : decode cX7_link 31 = .ok (.getfield 7, 3) := by decide +kernel
theorem dX7_link_34 : decode cX7_link 34 = .ok (.iload_n 1, 1) := by decide +kernel
theorem dX7_link_35 : decode cX7_link 35 = .ok (.invokestatic 47, 3) := by decide +kernel
theorem dX7_link_38 : decode cX7_link 38 = .ok (.iaload, 1) := by decide +kernel
theorem dX7_link_39 : decode cX7_link 39 = .ok (.iconst 1, 1) := by decide +kernel
theorem dX7_link_40 : decode cX7_link 40 = .ok (.isub, 1) := by decide +kernel
theorem dX7_link_41 : decode cX7_link 41 = .ok (.iload_n 2, 1) := by decide +kernel
theorem dX7_link_42 : decode cX7_link 42 = .ok (.isub, 1) := by decide +kernel
theorem dX7_link_43 : decode cX7_link 43 = .ok (.invokestatic 51, 3) := by decide +kernel
theorem dX7_link_46 : decode cX7_link 46 = .ok (.istore 4, 2) := by decide +kernel
theorem dX7_link_48 : decode cX7_link 48 = .ok (.iload_n 3, 1) := by decide +kernel
theorem dX7_link_49 : decode cX7_link 49 = .ok (.tableswitch 65 0 3 #[31, 42, 53, 53], 31) := by decide +kernel
theorem dX7_link_80 : decode cX7_link 80 = .ok (.aload_n 0, 1) := by decide +kernel
theorem dX7_link_81 : decode cX7_link 81 = .ok (.getfield 7, 3) := by decide +kernel
theorem dX7_link_84 : decode cX7_link 84 = .ok (.iload 4, 2) := by decide +kernel
theorem dX7_link_86 : decode cX7_link 86 = .ok (.iaload, 1) := by decide +kernel
theorem dX7_link_87 : decode cX7_link 87 = .ok (.bipush 26, 2) := by decide +kernel
theorem dX7_link_89 : decode cX7_link 89 = .ok (.idiv, 1) := by decide +kernel
theorem dX7_link_90 : decode cX7_link 90 = .ok (.ireturn, 1) := by decide +kernel
theorem dX7_link_91 : decode cX7_link 91 = .ok (.aload_n 0, 1) := by decide +kernel
theorem dX7_link_92 : decode cX7_link 92 = .ok (.getfield 7, 3) := by decide +kernel
theorem dX7_link_95 : decode cX7_link 95 = .ok (.iload 4, 2) := by decide +kernel
theorem dX7_link_97 : decode cX7_link 97 = .ok (.iaload, 1) := by decide +kernel
theorem dX7_link_98 : decode cX7_link 98 = .ok (.bipush 26, 2) := by decide +kernel
theorem dX7_link_100 : decode cX7_link 100 = .ok (.irem, 1) := by decide +kernel
theorem dX7_link_101 : decode cX7_link 101 = .ok (.ireturn, 1) := by decide +kernel
theorem dX7_link_102 : decode cX7_link 102 = .ok (.aload_n 0, 1) := by decide +kernel
theorem dX7_link_103 : decode cX7_link 103 = .ok (.getfield 7, 3) := by decide +kernel
theorem dX7_link_106 : decode cX7_link 106 = .ok (.iload 4, 2) := by decide +kernel
theorem dX7_link_108 : decode cX7_link 108 = .ok (.iload_n 3, 1) := by decide +kernel
theorem dX7_link_109 : decode cX7_link 109 = .ok (.iadd, 1) := by decide +kernel
theorem dX7_link_110 : decode cX7_link 110 = .ok (.iconst 1, 1) := by decide +kernel
theorem dX7_link_111 : decode cX7_link 111 = .ok (.isub, 1) := by decide +kernel
theorem dX7_link_112 : decode cX7_link 112 = .ok (.iaload, 1) := by decide +kernel
theorem dX7_link_113 : decode cX7_link 113 = .ok (.ireturn, 1) := by decide +kernel
theorem dX7_link_114 : decode cX7_link 114 = .ok (.bipush (-2), 2) := by decide +kernel
theorem dX7_link_116 : decode cX7_link 116 = .ok (.ireturn, 1) := by decide +kernel
theorem dX7_sings_0 : decode cX7_sings 0 = .ok (.aload_n 0, 1) := by decide +kernel
theorem dX7_sings_1 : decode cX7_sings 1 = .ok (.iload_n 1, 1) := by decide +kernel
theorem dX7_sings_2 : decode cX7_sings 2 = .ok (.invokevirtual 80, 3) := by decide +kernel
theorem dX7_sings_5 : decode cX7_sings 5 = .ok (.ifCond .ne 5, 3) := by decide +kernel
theorem dX7_sings_8 : decode cX7_sings 8 = .ok (.iconst (-1), 1) := by decide +kernel
theorem dX7_sings_9 : decode cX7_sings 9 = .ok (.ireturn, 1) := by decide +kernel
theorem dX7_sings_10 : decode cX7_sings 10 = .ok (.iload_n 2, 1) := by decide +kernel
theorem dX7_sings_11 : decode cX7_sings 11 = .ok (.iconst 0, 1) := by decide +kernel
theorem dX7_sings_12 : decode cX7_sings 12 = .ok (.bipush 25, 2) := by decide +kernel
theorem dX7_sings_14 : decode cX7_sings 14 = .ok (.invokestatic 39, 3) := by decide +kernel
theorem dX7_sings_17 : decode cX7_sings 17 = .ok (.ifCond .eq 13, 3) := by decide +kernel
theorem dX7_sings_20 : decode cX7_sings 20 = .ok (.iload_n 3, 1) := by decide +kernel
theorem dX7_sings_21 : decode cX7_sings 21 = .ok (.iconst 0, 1) := by decide +kernel
theorem dX7_sings_22 : decode cX7_sings 22 = .ok (.bipush 99, 2) := by decide +kernel
theorem dX7_sings_24 : decode cX7_sings 24 = .ok (.invokestatic 39, 3) := by decide +kernel
theorem dX7_sings_27 : decode cX7_sings 27 = .ok (.ifCond .ne 6, 3) := by decide +kernel
theorem dX7_sings_30 : decode cX7_sings 30 = .ok (.bipush (-2), 2) := by decide +kernel
theorem dX7_sings_32 : decode cX7_sings 32 = .ok (.ireturn, 1) := by decide +kernel
theorem dX7_sings_33 : decode cX7_sings 33 = .ok (.iload_n 2, 1) := by decide +kernel
theorem dX7_sings_34 : decode cX7_sings 34 = .ok (.istore 4, 2) := by decide +kernel
theorem dX7_sings_36 : decode cX7_sings 36 = .ok (.iconst 0, 1) := by decide +kernel
theorem dX7_sings_37 : decode cX7_sings 37 = .ok (.istore 5, 2) := by decide +kernel
theorem dX7_sings_39 : decode cX7_sings 39 = .ok (.iload 5, 2) := by decide +kernel
theorem dX7_sings_41 : decode cX7_sings 41 = .ok (.iload_n 3, 1) := by decide +kernel
theorem dX7_sings_42 : decode cX7_sings 42 = .ok (.if_icmp .ge 23, 3) := by decide +kernel
theorem dX7_sings_45 : decode cX7_sings 45 = .ok (.iload 4, 2) := by decide +kernel
theorem dX7_sings_47 : decode cX7_sings 47 = .ok (.ifCond .lt 18, 3) := by decide +kernel
theorem dX7_sings_50 : decode cX7_sings 50 = .ok (.aload_n 0, 1) := by decide +kernel
theorem dX7_sings_51 : decode cX7_sings 51 = .ok (.iload_n 1, 1) := by decide +kernel
theorem dX7_sings_52 : decode cX7_sings 52 = .ok (.iload 4, 2) := by decide +kernel
theorem dX7_sings_54 : decode cX7_sings 54 = .ok (.invokevirtual 71, 3) := by decide +kernel
theorem dX7_sings_57 : decode cX7_sings 57 = .ok (.istore 4, 2) := by decide +kernel
theorem dX7_sings_59 : decode cX7_sings 59 = .ok (.iinc 5 1, 3) := by decide +kernel
theorem dX7_sings_62 : decode cX7_sings 62 = .ok (.goto (-23), 3) := by decide +kernel
theorem dX7_sings_65 : decode cX7_sings 65 = .ok (.iload 4, 2) := by decide +kernel
theorem dX7_sings_67 : decode cX7_sings 67 = .ok (.ifCond .ge 8, 3) := by decide +kernel
theorem dX7_sings_70 : decode cX7_sings 70 = .ok (.bipush (-6), 2) := by decide +kernel
theorem dX7_sings_72 : decode cX7_sings 72 = .ok (.goto 5, 3) := by decide +kernel
theorem dX7_sings_75 : decode cX7_sings 75 = .ok (.iload 4, 2) := by decide +kernel
theorem dX7_sings_77 : decode cX7_sings 77 = .ok (.ireturn, 1) := by decide +kernel
theorem dX7_knows_0 : decode cX7_knows 0 = .ok (.aload_n 0, 1) := by decide +kernel
theorem dX7_knows_1 : decode cX7_knows 1 = .ok (.iload_n 1, 1) := by decide +kernel
theorem dX7_knows_2 : decode cX7_knows 2 = .ok (.invokevirtual 80, 3) := by decide +kernel
theorem dX7_knows_5 : decode cX7_knows 5 = .ok (.ifCond .eq 20, 3) := by decide +kernel
theorem dX7_knows_8 : decode cX7_knows 8 = .ok (.aload_n 0, 1) := by decide +kernel
theorem dX7_knows_9 : decode cX7_knows 9 = .ok (.iload_n 2, 1) := by decide +kernel
theorem dX7_knows_10 : decode cX7_knows 10 = .ok (.invokevirtual 84, 3) := by decide +kernel
theorem dX7_knows_13 : decode cX7_knows 13 = .ok (.ifCond .eq 12, 3) := by decide +kernel
theorem dX7_knows_16 : decode cX7_knows 16 = .ok (.aload_n 0, 1) := by decide +kernel
theorem dX7_knows_17 : decode cX7_knows 17 = .ok (.iload_n 1, 1) := by decide +kernel
theorem dX7_knows_18 : decode cX7_knows 18 = .ok (.iload_n 2, 1) := by decide +kernel
theorem dX7_knows_19 : decode cX7_knows 19 = .ok (.invokevirtual 77, 3) := by decide +kernel
theorem dX7_knows_22 : decode cX7_knows 22 = .ok (.goto 4, 3) := by decide +kernel
theorem dX7_knows_25 : decode cX7_knows 25 = .ok (.iconst (-1), 1) := by decide +kernel
theorem dX7_knows_26 : decode cX7_knows 26 = .ok (.ireturn, 1) := by decide +kernel
theorem dX7_songsWith_0 : decode cX7_songsWith 0 = .ok (.iconst 0, 1) := by decide +kernel
theorem dX7_songsWith_1 : decode cX7_songsWith 1 = .ok (.istore_n 3, 1) := by decide +kernel
theorem dX7_songsWith_2 : decode cX7_songsWith 2 = .ok (.iconst 0, 1) := by decide +kernel
theorem dX7_songsWith_3 : decode cX7_songsWith 3 = .ok (.istore 4, 2) := by decide +kernel
theorem dX7_songsWith_5 : decode cX7_songsWith 5 = .ok (.iload 4, 2) := by decide +kernel
theorem dX7_songsWith_7 : decode cX7_songsWith 7 = .ok (.aload_n 0, 1) := by decide +kernel
theorem dX7_songsWith_8 : decode cX7_songsWith 8 = .ok (.getfield 7, 3) := by decide +kernel
theorem dX7_songsWith_11 : decode cX7_songsWith 11 = .ok (.iconst 5, 1) := by decide +kernel
theorem dX7_songsWith_12 : decode cX7_songsWith 12 = .ok (.iaload, 1) := by decide +kernel
theorem dX7_songsWith_13 : decode cX7_songsWith 13 = .ok (.if_icmp .ge 80, 3) := by decide +kernel
theorem dX7_songsWith_16 : decode cX7_songsWith 16 = .ok (.iload 4, 2) := by decide +kernel
theorem dX7_songsWith_18 : decode cX7_songsWith 18 = .ok (.invokestatic 68, 3) := by decide +kernel
theorem dX7_songsWith_21 : decode cX7_songsWith 21 = .ok (.istore 5, 2) := by decide +kernel
theorem dX7_songsWith_23 : decode cX7_songsWith 23 = .ok (.iconst 1, 1) := by decide +kernel
theorem dX7_songsWith_24 : decode cX7_songsWith 24 = .ok (.istore 6, 2) := by decide +kernel
theorem dX7_songsWith_26 : decode cX7_songsWith 26 = .ok (.iload 6, 2) := by decide +kernel
theorem dX7_songsWith_28 : decode cX7_songsWith 28 = .ok (.aload_n 0, 1) := by decide +kernel
theorem dX7_songsWith_29 : decode cX7_songsWith 29 = .ok (.getfield 7, 3) := by decide +kernel
theorem dX7_songsWith_32 : decode cX7_songsWith 32 = .ok (.iload 5, 2) := by decide +kernel
theorem dX7_songsWith_34 : decode cX7_songsWith 34 = .ok (.iaload, 1) := by decide +kernel
theorem dX7_songsWith_35 : decode cX7_songsWith 35 = .ok (.if_icmp .ge 52, 3) := by decide +kernel
theorem dX7_songsWith_38 : decode cX7_songsWith 38 = .ok (.iload_n 3, 1) := by decide +kernel
theorem dX7_songsWith_39 : decode cX7_songsWith 39 = .ok (.aload_n 0, 1) := by decide +kernel
theorem dX7_songsWith_40 : decode cX7_songsWith 40 = .ok (.getfield 7, 3) := by decide +kernel
theorem dX7_songsWith_43 : decode cX7_songsWith 43 = .ok (.iload 5, 2) := by decide +kernel
theorem dX7_songsWith_45 : decode cX7_songsWith 45 = .ok (.iconst 1, 1) := by decide +kernel
theorem dX7_songsWith_46 : decode cX7_songsWith 46 = .ok (.iadd, 1) := by decide +kernel
theorem dX7_songsWith_47 : decode cX7_songsWith 47 = .ok (.iload 6, 2) := by decide +kernel
theorem dX7_songsWith_49 : decode cX7_songsWith 49 = .ok (.iadd, 1) := by decide +kernel
theorem dX7_songsWith_50 : decode cX7_songsWith 50 = .ok (.iaload, 1) := by decide +kernel
theorem dX7_songsWith_51 : decode cX7_songsWith 51 = .ok (.iload_n 1, 1) := by decide +kernel
theorem dX7_songsWith_52 : decode cX7_songsWith 52 = .ok (.if_icmp .ne 26, 3) := by decide +kernel
theorem dX7_songsWith_55 : decode cX7_songsWith 55 = .ok (.aload_n 0, 1) := by decide +kernel
theorem dX7_songsWith_56 : decode cX7_songsWith 56 = .ok (.getfield 7, 3) := by decide +kernel
theorem dX7_songsWith_59 : decode cX7_songsWith 59 = .ok (.iload 5, 2) := by decide +kernel
theorem dX7_songsWith_61 : decode cX7_songsWith 61 = .ok (.iconst 2, 1) := by decide +kernel
theorem dX7_songsWith_62 : decode cX7_songsWith 62 = .ok (.iadd, 1) := by decide +kernel
theorem dX7_songsWith_63 : decode cX7_songsWith 63 = .ok (.iload 6, 2) := by decide +kernel
theorem dX7_songsWith_65 : decode cX7_songsWith 65 = .ok (.iadd, 1) := by decide +kernel
theorem dX7_songsWith_66 : decode cX7_songsWith 66 = .ok (.iaload, 1) := by decide +kernel
theorem dX7_songsWith_67 : decode cX7_songsWith 67 = .ok (.iload_n 2, 1) := by decide +kernel
theorem dX7_songsWith_68 : decode cX7_songsWith 68 = .ok (.if_icmp .ne 10, 3) := by decide +kernel
theorem dX7_songsWith_71 : decode cX7_songsWith 71 = .ok (.iconst 1, 1) := by decide +kernel
theorem dX7_songsWith_72 : decode cX7_songsWith 72 = .ok (.iload 4, 2) := by decide +kernel
theorem dX7_songsWith_74 : decode cX7_songsWith 74 = .ok (.ishl, 1) := by decide +kernel
theorem dX7_songsWith_75 : decode cX7_songsWith 75 = .ok (.goto 4, 3) := by decide +kernel
theorem dX7_songsWith_78 : decode cX7_songsWith 78 = .ok (.iconst 0, 1) := by decide +kernel
theorem dX7_songsWith_79 : decode cX7_songsWith 79 = .ok (.ior, 1) := by decide +kernel
theorem dX7_songsWith_80 : decode cX7_songsWith 80 = .ok (.istore_n 3, 1) := by decide +kernel
theorem dX7_songsWith_81 : decode cX7_songsWith 81 = .ok (.iinc 6 1, 3) := by decide +kernel
theorem dX7_songsWith_84 : decode cX7_songsWith 84 = .ok (.goto (-58), 3) := by decide +kernel
theorem dX7_songsWith_87 : decode cX7_songsWith 87 = .ok (.iinc 4 1, 3) := by decide +kernel
theorem dX7_songsWith_90 : decode cX7_songsWith 90 = .ok (.goto (-85), 3) := by decide +kernel
theorem dX7_songsWith_93 : decode cX7_songsWith 93 = .ok (.iload_n 3, 1) := by decide +kernel
theorem dX7_songsWith_94 : decode cX7_songsWith 94 = .ok (.ireturn, 1) := by decide +kernel
theorem dX7_mistake_0 : decode cX7_mistake 0 = .ok (.aload_n 0, 1) := by decide +kernel
theorem dX7_mistake_1 : decode cX7_mistake 1 = .ok (.iload_n 1, 1) := by decide +kernel
theorem dX7_mistake_2 : decode cX7_mistake 2 = .ok (.invokevirtual 80, 3) := by decide +kernel
theorem dX7_mistake_5 : decode cX7_mistake 5 = .ok (.ifCond .eq 11, 3) := by decide +kernel
theorem dX7_mistake_8 : decode cX7_mistake 8 = .ok (.aload_n 0, 1) := by decide +kernel
theorem dX7_mistake_9 : decode cX7_mistake 9 = .ok (.iload_n 2, 1) := by decide +kernel
theorem dX7_mistake_10 : decode cX7_mistake 10 = .ok (.invokevirtual 84, 3) := by decide +kernel
theorem dX7_mistake_13 : decode cX7_mistake 13 = .ok (.ifCond .ne 5, 3) := by decide +kernel
theorem dX7_mistake_16 : decode cX7_mistake 16 = .ok (.iconst (-1), 1) := by decide +kernel
theorem dX7_mistake_17 : decode cX7_mistake 17 = .ok (.ireturn, 1) := by decide +kernel
theorem dX7_mistake_18 : decode cX7_mistake 18 = .ok (.iload_n 3, 1) := by decide +kernel
theorem dX7_mistake_19 : decode cX7_mistake 19 = .ok (.iconst 0, 1) := by decide +kernel
theorem dX7_mistake_20 : decode cX7_mistake 20 = .ok (.iconst 2, 1) := by decide +kernel
theorem dX7_mistake_21 : decode cX7_mistake 21 = .ok (.invokestatic 39, 3) := by decide +kernel
theorem dX7_mistake_24 : decode cX7_mistake 24 = .ok (.ifCond .ne 6, 3) := by decide +kernel
theorem dX7_mistake_27 : decode cX7_mistake 27 = .ok (.bipush (-2), 2) := by decide +kernel
theorem dX7_mistake_29 : decode cX7_mistake 29 = .ok (.ireturn, 1) := by decide +kernel
theorem dX7_mistake_30 : decode cX7_mistake 30 = .ok (.aload_n 0, 1) := by decide +kernel
theorem dX7_mistake_31 : decode cX7_mistake 31 = .ok (.iload_n 1, 1) := by decide +kernel
theorem dX7_mistake_32 : decode cX7_mistake 32 = .ok (.iload_n 2, 1) := by decide +kernel
theorem dX7_mistake_33 : decode cX7_mistake 33 = .ok (.invokevirtual 74, 3) := by decide +kernel
theorem dX7_mistake_36 : decode cX7_mistake 36 = .ok (.istore 4, 2) := by decide +kernel
theorem dX7_mistake_38 : decode cX7_mistake 38 = .ok (.iload 4, 2) := by decide +kernel
theorem dX7_mistake_40 : decode cX7_mistake 40 = .ok (.iconst 1, 1) := by decide +kernel
theorem dX7_mistake_41 : decode cX7_mistake 41 = .ok (.iadd, 1) := by decide +kernel
theorem dX7_mistake_42 : decode cX7_mistake 42 = .ok (.aload_n 0, 1) := by decide +kernel
theorem dX7_mistake_43 : decode cX7_mistake 43 = .ok (.getfield 7, 3) := by decide +kernel
theorem dX7_mistake_46 : decode cX7_mistake 46 = .ok (.iload_n 2, 1) := by decide +kernel
theorem dX7_mistake_47 : decode cX7_mistake 47 = .ok (.invokestatic 68, 3) := by decide +kernel
theorem dX7_mistake_50 : decode cX7_mistake 50 = .ok (.iaload, 1) := by decide +kernel
theorem dX7_mistake_51 : decode cX7_mistake 51 = .ok (.if_icmp .lt 6, 3) := by decide +kernel
theorem dX7_mistake_54 : decode cX7_mistake 54 = .ok (.bipush (-5), 2) := by decide +kernel
theorem dX7_mistake_56 : decode cX7_mistake 56 = .ok (.ireturn, 1) := by decide +kernel
theorem dX7_mistake_57 : decode cX7_mistake 57 = .ok (.aload_n 0, 1) := by decide +kernel
theorem dX7_mistake_58 : decode cX7_mistake 58 = .ok (.getfield 7, 3) := by decide +kernel
theorem dX7_mistake_61 : decode cX7_mistake 61 = .ok (.iload_n 2, 1) := by decide +kernel
theorem dX7_mistake_62 : decode cX7_mistake 62 = .ok (.invokestatic 68, 3) := by decide +kernel
theorem dX7_mistake_65 : decode cX7_mistake 65 = .ok (.iconst 2, 1) := by decide +kernel
theorem dX7_mistake_66 : decode cX7_mistake 66 = .ok (.iadd, 1) := by decide +kernel
theorem dX7_mistake_67 : decode cX7_mistake 67 = .ok (.iload 4, 2) := by decide +kernel
theorem dX7_mistake_69 : decode cX7_mistake 69 = .ok (.iadd, 1) := by decide +kernel
theorem dX7_mistake_70 : decode cX7_mistake 70 = .ok (.iaload, 1) := by decide +kernel
theorem dX7_mistake_71 : decode cX7_mistake 71 = .ok (.istore 5, 2) := by decide +kernel
theorem dX7_mistake_73 : decode cX7_mistake 73 = .ok (.aload_n 0, 1) := by decide +kernel
theorem dX7_mistake_74 : decode cX7_mistake 74 = .ok (.iload_n 1, 1) := by decide +kernel
theorem dX7_mistake_75 : decode cX7_mistake 75 = .ok (.iload 5, 2) := by decide +kernel
theorem dX7_mistake_77 : decode cX7_mistake 77 = .ok (.invokevirtual 71, 3) := by decide +kernel
theorem dX7_mistake_80 : decode cX7_mistake 80 = .ok (.istore 6, 2) := by decide +kernel
theorem dX7_mistake_82 : decode cX7_mistake 82 = .ok (.iload_n 3, 1) := by decide +kernel
theorem dX7_mistake_83 : decode cX7_mistake 83 = .ok (.ifCond .ne 10, 3) := by decide +kernel
theorem dX7_mistake_86 : decode cX7_mistake 86 = .ok (.iload 4, 2) := by decide +kernel
theorem dX7_mistake_88 : decode cX7_mistake 88 = .ok (.iconst 1, 1) := by decide +kernel
theorem dX7_mistake_89 : decode cX7_mistake 89 = .ok (.iadd, 1) := by decide +kernel
theorem dX7_mistake_90 : decode cX7_mistake 90 = .ok (.goto 40, 3) := by decide +kernel
theorem dX7_mistake_93 : decode cX7_mistake 93 = .ok (.iload_n 3, 1) := by decide +kernel
theorem dX7_mistake_94 : decode cX7_mistake 94 = .ok (.iconst 1, 1) := by decide +kernel
theorem dX7_mistake_95 : decode cX7_mistake 95 = .ok (.if_icmp .ne 18, 3) := by decide +kernel
theorem dX7_mistake_98 : decode cX7_mistake 98 = .ok (.iload 6, 2) := by decide +kernel
theorem dX7_mistake_100 : decode cX7_mistake 100 = .ok (.ifCond .ge 8, 3) := by decide +kernel
theorem dX7_mistake_103 : decode cX7_mistake 103 = .ok (.bipush (-6), 2) := by decide +kernel
theorem dX7_mistake_105 : decode cX7_mistake 105 = .ok (.goto 25, 3) := by decide +kernel
theorem dX7_mistake_108 : decode cX7_mistake 108 = .ok (.iload 6, 2) := by decide +kernel
theorem dX7_mistake_110 : decode cX7_mistake 110 = .ok (.goto 20, 3) := by decide +kernel
theorem dX7_mistake_113 : decode cX7_mistake 113 = .ok (.iload 6, 2) := by decide +kernel
theorem dX7_mistake_115 : decode cX7_mistake 115 = .ok (.ifCond .ge 7, 3) := by decide +kernel
theorem dX7_mistake_118 : decode cX7_mistake 118 = .ok (.iconst 0, 1) := by decide +kernel
theorem dX7_mistake_119 : decode cX7_mistake 119 = .ok (.goto 11, 3) := by decide +kernel
theorem dX7_mistake_122 : decode cX7_mistake 122 = .ok (.aload_n 0, 1) := by decide +kernel
theorem dX7_mistake_123 : decode cX7_mistake 123 = .ok (.iload 5, 2) := by decide +kernel
theorem dX7_mistake_125 : decode cX7_mistake 125 = .ok (.iload 6, 2) := by decide +kernel
theorem dX7_mistake_127 : decode cX7_mistake 127 = .ok (.invokevirtual 134, 3) := by decide +kernel
theorem dX7_mistake_130 : decode cX7_mistake 130 = .ok (.ireturn, 1) := by decide +kernel
theorem dX7_rhymes_0 : decode cX7_rhymes 0 = .ok (.aload_n 0, 1) := by decide +kernel
theorem dX7_rhymes_1 : decode cX7_rhymes 1 = .ok (.iload_n 1, 1) := by decide +kernel
theorem dX7_rhymes_2 : decode cX7_rhymes 2 = .ok (.invokevirtual 84, 3) := by decide +kernel
theorem dX7_rhymes_5 : decode cX7_rhymes 5 = .ok (.ifCond .eq 11, 3) := by decide +kernel
theorem dX7_rhymes_8 : decode cX7_rhymes 8 = .ok (.aload_n 0, 1) := by decide +kernel
theorem dX7_rhymes_9 : decode cX7_rhymes 9 = .ok (.iload_n 2, 1) := by decide +kernel
theorem dX7_rhymes_10 : decode cX7_rhymes 10 = .ok (.invokevirtual 84, 3) := by decide +kernel
theorem dX7_rhymes_13 : decode cX7_rhymes 13 = .ok (.ifCond .ne 5, 3) := by decide +kernel
theorem dX7_rhymes_16 : decode cX7_rhymes 16 = .ok (.iconst (-1), 1) := by decide +kernel
theorem dX7_rhymes_17 : decode cX7_rhymes 17 = .ok (.ireturn, 1) := by decide +kernel
theorem dX7_rhymes_18 : decode cX7_rhymes 18 = .ok (.iconst 0, 1) := by decide +kernel
theorem dX7_rhymes_19 : decode cX7_rhymes 19 = .ok (.istore_n 3, 1) := by decide +kernel
theorem dX7_rhymes_20 : decode cX7_rhymes 20 = .ok (.iload_n 1, 1) := by decide +kernel
theorem dX7_rhymes_21 : decode cX7_rhymes 21 = .ok (.invokestatic 68, 3) := by decide +kernel
theorem dX7_rhymes_24 : decode cX7_rhymes 24 = .ok (.iconst 1, 1) := by decide +kernel
theorem dX7_rhymes_25 : decode cX7_rhymes 25 = .ok (.iadd, 1) := by decide +kernel
theorem dX7_rhymes_26 : decode cX7_rhymes 26 = .ok (.aload_n 0, 1) := by decide +kernel
theorem dX7_rhymes_27 : decode cX7_rhymes 27 = .ok (.getfield 7, 3) := by decide +kernel
theorem dX7_rhymes_30 : decode cX7_rhymes 30 = .ok (.iload_n 1, 1) := by decide +kernel
theorem dX7_rhymes_31 : decode cX7_rhymes 31 = .ok (.invokestatic 68, 3) := by decide +kernel
theorem dX7_rhymes_34 : decode cX7_rhymes 34 = .ok (.iaload, 1) := by decide +kernel
theorem dX7_rhymes_35 : decode cX7_rhymes 35 = .ok (.iadd, 1) := by decide +kernel
theorem dX7_rhymes_36 : decode cX7_rhymes 36 = .ok (.istore 4, 2) := by decide +kernel
theorem dX7_rhymes_38 : decode cX7_rhymes 38 = .ok (.iload_n 2, 1) := by decide +kernel
theorem dX7_rhymes_39 : decode cX7_rhymes 39 = .ok (.invokestatic 68, 3) := by decide +kernel
theorem dX7_rhymes_42 : decode cX7_rhymes 42 = .ok (.iconst 1, 1) := by decide +kernel
theorem dX7_rhymes_43 : decode cX7_rhymes 43 = .ok (.iadd, 1) := by decide +kernel
theorem dX7_rhymes_44 : decode cX7_rhymes 44 = .ok (.aload_n 0, 1) := by decide +kernel
theorem dX7_rhymes_45 : decode cX7_rhymes 45 = .ok (.getfield 7, 3) := by decide +kernel
theorem dX7_rhymes_48 : decode cX7_rhymes 48 = .ok (.iload_n 2, 1) := by decide +kernel
theorem dX7_rhymes_49 : decode cX7_rhymes 49 = .ok (.invokestatic 68, 3) := by decide +kernel
theorem dX7_rhymes_52 : decode cX7_rhymes 52 = .ok (.iaload, 1) := by decide +kernel
theorem dX7_rhymes_53 : decode cX7_rhymes 53 = .ok (.iadd, 1) := by decide +kernel
theorem dX7_rhymes_54 : decode cX7_rhymes 54 = .ok (.istore 5, 2) := by decide +kernel
theorem dX7_rhymes_56 : decode cX7_rhymes 56 = .ok (.iload_n 3, 1) := by decide +kernel
theorem dX7_rhymes_57 : decode cX7_rhymes 57 = .ok (.aload_n 0, 1) := by decide +kernel
theorem dX7_rhymes_58 : decode cX7_rhymes 58 = .ok (.getfield 7, 3) := by decide +kernel
theorem dX7_rhymes_61 : decode cX7_rhymes 61 = .ok (.iload_n 1, 1) := by decide +kernel
theorem dX7_rhymes_62 : decode cX7_rhymes 62 = .ok (.invokestatic 68, 3) := by decide +kernel
theorem dX7_rhymes_65 : decode cX7_rhymes 65 = .ok (.iaload, 1) := by decide +kernel
theorem dX7_rhymes_66 : decode cX7_rhymes 66 = .ok (.if_icmp .ge 43, 3) := by decide +kernel
theorem dX7_rhymes_69 : decode cX7_rhymes 69 = .ok (.iload_n 3, 1) := by decide +kernel
theorem dX7_rhymes_70 : decode cX7_rhymes 70 = .ok (.aload_n 0, 1) := by decide +kernel
theorem dX7_rhymes_71 : decode cX7_rhymes 71 = .ok (.getfield 7, 3) := by decide +kernel
theorem dX7_rhymes_74 : decode cX7_rhymes 74 = .ok (.iload_n 2, 1) := by decide +kernel
theorem dX7_rhymes_75 : decode cX7_rhymes 75 = .ok (.invokestatic 68, 3) := by decide +kernel
theorem dX7_rhymes_78 : decode cX7_rhymes 78 = .ok (.iaload, 1) := by decide +kernel
theorem dX7_rhymes_79 : decode cX7_rhymes 79 = .ok (.if_icmp .ge 30, 3) := by decide +kernel
theorem dX7_rhymes_82 : decode cX7_rhymes 82 = .ok (.aload_n 0, 1) := by decide +kernel
theorem dX7_rhymes_83 : decode cX7_rhymes 83 = .ok (.getfield 7, 3) := by decide +kernel
theorem dX7_rhymes_86 : decode cX7_rhymes 86 = .ok (.iload 4, 2) := by decide +kernel
theorem dX7_rhymes_88 : decode cX7_rhymes 88 = .ok (.iload_n 3, 1) := by decide +kernel
theorem dX7_rhymes_89 : decode cX7_rhymes 89 = .ok (.isub, 1) := by decide +kernel
theorem dX7_rhymes_90 : decode cX7_rhymes 90 = .ok (.iaload, 1) := by decide +kernel
theorem dX7_rhymes_91 : decode cX7_rhymes 91 = .ok (.aload_n 0, 1) := by decide +kernel
theorem dX7_rhymes_92 : decode cX7_rhymes 92 = .ok (.getfield 7, 3) := by decide +kernel
theorem dX7_rhymes_95 : decode cX7_rhymes 95 = .ok (.iload 5, 2) := by decide +kernel
theorem dX7_rhymes_97 : decode cX7_rhymes 97 = .ok (.iload_n 3, 1) := by decide +kernel
theorem dX7_rhymes_98 : decode cX7_rhymes 98 = .ok (.isub, 1) := by decide +kernel
theorem dX7_rhymes_99 : decode cX7_rhymes 99 = .ok (.iaload, 1) := by decide +kernel
theorem dX7_rhymes_100 : decode cX7_rhymes 100 = .ok (.if_icmp .ne 9, 3) := by decide +kernel
theorem dX7_rhymes_103 : decode cX7_rhymes 103 = .ok (.iinc 3 1, 3) := by decide +kernel
theorem dX7_rhymes_106 : decode cX7_rhymes 106 = .ok (.goto (-50), 3) := by decide +kernel
theorem dX7_rhymes_109 : decode cX7_rhymes 109 = .ok (.iload_n 3, 1) := by decide +kernel
theorem dX7_rhymes_110 : decode cX7_rhymes 110 = .ok (.ireturn, 1) := by decide +kernel
theorem dX7_follows_0 : decode cX7_follows 0 = .ok (.aload_n 0, 1) := by decide +kernel
theorem dX7_follows_1 : decode cX7_follows 1 = .ok (.iload_n 1, 1) := by decide +kernel
theorem dX7_follows_2 : decode cX7_follows 2 = .ok (.invokevirtual 80, 3) := by decide +kernel
theorem dX7_follows_5 : decode cX7_follows 5 = .ok (.ifCond .eq 11, 3) := by decide +kernel
theorem dX7_follows_8 : decode cX7_follows 8 = .ok (.aload_n 0, 1) := by decide +kernel
theorem dX7_follows_9 : decode cX7_follows 9 = .ok (.iload_n 2, 1) := by decide +kernel
theorem dX7_follows_10 : decode cX7_follows 10 = .ok (.invokevirtual 84, 3) := by decide +kernel
theorem dX7_follows_13 : decode cX7_follows 13 = .ok (.ifCond .ne 5, 3) := by decide +kernel
theorem dX7_follows_16 : decode cX7_follows 16 = .ok (.iconst (-1), 1) := by decide +kernel
theorem dX7_follows_17 : decode cX7_follows 17 = .ok (.ireturn, 1) := by decide +kernel
theorem dX7_follows_18 : decode cX7_follows 18 = .ok (.aload_n 0, 1) := by decide +kernel
theorem dX7_follows_19 : decode cX7_follows 19 = .ok (.iload_n 1, 1) := by decide +kernel
theorem dX7_follows_20 : decode cX7_follows 20 = .ok (.aload_n 0, 1) := by decide +kernel
theorem dX7_follows_21 : decode cX7_follows 21 = .ok (.getfield 7, 3) := by decide +kernel
theorem dX7_follows_24 : decode cX7_follows 24 = .ok (.iload_n 2, 1) := by decide +kernel
theorem dX7_follows_25 : decode cX7_follows 25 = .ok (.invokestatic 68, 3) := by decide +kernel
theorem dX7_follows_28 : decode cX7_follows 28 = .ok (.iconst 1, 1) := by decide +kernel
theorem dX7_follows_29 : decode cX7_follows 29 = .ok (.iadd, 1) := by decide +kernel
theorem dX7_follows_30 : decode cX7_follows 30 = .ok (.aload_n 0, 1) := by decide +kernel
theorem dX7_follows_31 : decode cX7_follows 31 = .ok (.getfield 7, 3) := by decide +kernel
theorem dX7_follows_34 : decode cX7_follows 34 = .ok (.iload_n 2, 1) := by decide +kernel
theorem dX7_follows_35 : decode cX7_follows 35 = .ok (.invokestatic 68, 3) := by decide +kernel
theorem dX7_follows_38 : decode cX7_follows 38 = .ok (.iaload, 1) := by decide +kernel
theorem dX7_follows_39 : decode cX7_follows 39 = .ok (.iadd, 1) := by decide +kernel
theorem dX7_follows_40 : decode cX7_follows 40 = .ok (.iaload, 1) := by decide +kernel
theorem dX7_follows_41 : decode cX7_follows 41 = .ok (.invokevirtual 71, 3) := by decide +kernel
theorem dX7_follows_44 : decode cX7_follows 44 = .ok (.istore_n 3, 1) := by decide +kernel
theorem dX7_follows_45 : decode cX7_follows 45 = .ok (.iconst 0, 1) := by decide +kernel
theorem dX7_follows_46 : decode cX7_follows 46 = .ok (.istore 4, 2) := by decide +kernel
theorem dX7_follows_48 : decode cX7_follows 48 = .ok (.iconst 0, 1) := by decide +kernel
theorem dX7_follows_49 : decode cX7_follows 49 = .ok (.istore 5, 2) := by decide +kernel
theorem dX7_follows_51 : decode cX7_follows 51 = .ok (.iload 5, 2) := by decide +kernel
theorem dX7_follows_53 : decode cX7_follows 53 = .ok (.aload_n 0, 1) := by decide +kernel
theorem dX7_follows_54 : decode cX7_follows 54 = .ok (.getfield 7, 3) := by decide +kernel
theorem dX7_follows_57 : decode cX7_follows 57 = .ok (.iconst 5, 1) := by decide +kernel
theorem dX7_follows_58 : decode cX7_follows 58 = .ok (.iaload, 1) := by decide +kernel
theorem dX7_follows_59 : decode cX7_follows 59 = .ok (.if_icmp .ge 42, 3) := by decide +kernel
theorem dX7_follows_62 : decode cX7_follows 62 = .ok (.iload 4, 2) := by decide +kernel
theorem dX7_follows_64 : decode cX7_follows 64 = .ok (.iload_n 3, 1) := by decide +kernel
theorem dX7_follows_65 : decode cX7_follows 65 = .ok (.ifCond .lt 26, 3) := by decide +kernel
theorem dX7_follows_68 : decode cX7_follows 68 = .ok (.aload_n 0, 1) := by decide +kernel
theorem dX7_follows_69 : decode cX7_follows 69 = .ok (.getfield 7, 3) := by decide +kernel
theorem dX7_follows_72 : decode cX7_follows 72 = .ok (.iload 5, 2) := by decide +kernel
theorem dX7_follows_74 : decode cX7_follows 74 = .ok (.invokestatic 68, 3) := by decide +kernel
theorem dX7_follows_77 : decode cX7_follows 77 = .ok (.iconst 2, 1) := by decide +kernel
theorem dX7_follows_78 : decode cX7_follows 78 = .ok (.iadd, 1) := by decide +kernel
theorem dX7_follows_79 : decode cX7_follows 79 = .ok (.iaload, 1) := by decide +kernel
theorem dX7_follows_80 : decode cX7_follows 80 = .ok (.iload_n 3, 1) := by decide +kernel
theorem dX7_follows_81 : decode cX7_follows 81 = .ok (.if_icmp .ne 10, 3) := by decide +kernel
theorem dX7_follows_84 : decode cX7_follows 84 = .ok (.iconst 1, 1) := by decide +kernel
theorem dX7_follows_85 : decode cX7_follows 85 = .ok (.iload 5, 2) := by decide +kernel
theorem dX7_follows_87 : decode cX7_follows 87 = .ok (.ishl, 1) := by decide +kernel
theorem dX7_follows_88 : decode cX7_follows 88 = .ok (.goto 4, 3) := by decide +kernel
theorem dX7_follows_91 : decode cX7_follows 91 = .ok (.iconst 0, 1) := by decide +kernel
theorem dX7_follows_92 : decode cX7_follows 92 = .ok (.ior, 1) := by decide +kernel
theorem dX7_follows_93 : decode cX7_follows 93 = .ok (.istore 4, 2) := by decide +kernel
theorem dX7_follows_95 : decode cX7_follows 95 = .ok (.iinc 5 1, 3) := by decide +kernel
theorem dX7_follows_98 : decode cX7_follows 98 = .ok (.goto (-47), 3) := by decide +kernel
theorem dX7_follows_101 : decode cX7_follows 101 = .ok (.iload 4, 2) := by decide +kernel
theorem dX7_follows_103 : decode cX7_follows 103 = .ok (.ireturn, 1) := by decide +kernel
theorem dX7_ofParrots_0 : decode cX7_ofParrots 0 = .ok (.iconst 0, 1) := by decide +kernel
theorem dX7_ofParrots_1 : decode cX7_ofParrots 1 = .ok (.istore_n 2, 1) := by decide +kernel
theorem dX7_ofParrots_2 : decode cX7_ofParrots 2 = .ok (.iconst 0, 1) := by decide +kernel
theorem dX7_ofParrots_3 : decode cX7_ofParrots 3 = .ok (.istore_n 3, 1) := by decide +kernel
theorem dX7_ofParrots_4 : decode cX7_ofParrots 4 = .ok (.iconst 0, 1) := by decide +kernel
theorem dX7_ofParrots_5 : decode cX7_ofParrots 5 = .ok (.istore 4, 2) := by decide +kernel
theorem dX7_ofParrots_7 : decode cX7_ofParrots 7 = .ok (.iload 4, 2) := by decide +kernel
theorem dX7_ofParrots_9 : decode cX7_ofParrots 9 = .ok (.aload_n 0, 1) := by decide +kernel
theorem dX7_ofParrots_10 : decode cX7_ofParrots 10 = .ok (.getfield 7, 3) := by decide +kernel
theorem dX7_ofParrots_13 : decode cX7_ofParrots 13 = .ok (.bipush 6, 2) := by decide +kernel
theorem dX7_ofParrots_15 : decode cX7_ofParrots 15 = .ok (.iaload, 1) := by decide +kernel
theorem dX7_ofParrots_16 : decode cX7_ofParrots 16 = .ok (.if_icmp .ge 62, 3) := by decide +kernel
theorem dX7_ofParrots_19 : decode cX7_ofParrots 19 = .ok (.iload_n 2, 1) := by decide +kernel
theorem dX7_ofParrots_20 : decode cX7_ofParrots 20 = .ok (.iload_n 1, 1) := by decide +kernel
theorem dX7_ofParrots_21 : decode cX7_ofParrots 21 = .ok (.iconst 5, 1) := by decide +kernel
theorem dX7_ofParrots_22 : decode cX7_ofParrots 22 = .ok (.if_icmp .ne 16, 3) := by decide +kernel
theorem dX7_ofParrots_25 : decode cX7_ofParrots 25 = .ok (.aload_n 0, 1) := by decide +kernel
theorem dX7_ofParrots_26 : decode cX7_ofParrots 26 = .ok (.getfield 7, 3) := by decide +kernel
theorem dX7_ofParrots_29 : decode cX7_ofParrots 29 = .ok (.iload 4, 2) := by decide +kernel
theorem dX7_ofParrots_31 : decode cX7_ofParrots 31 = .ok (.invokestatic 47, 3) := by decide +kernel
theorem dX7_ofParrots_34 : decode cX7_ofParrots 34 = .ok (.iaload, 1) := by decide +kernel
theorem dX7_ofParrots_35 : decode cX7_ofParrots 35 = .ok (.goto 15, 3) := by decide +kernel
theorem dX7_ofParrots_38 : decode cX7_ofParrots 38 = .ok (.aload_n 0, 1) := by decide +kernel
theorem dX7_ofParrots_39 : decode cX7_ofParrots 39 = .ok (.getfield 7, 3) := by decide +kernel
theorem dX7_ofParrots_42 : decode cX7_ofParrots 42 = .ok (.iload 4, 2) := by decide +kernel
theorem dX7_ofParrots_44 : decode cX7_ofParrots 44 = .ok (.invokestatic 47, 3) := by decide +kernel
theorem dX7_ofParrots_47 : decode cX7_ofParrots 47 = .ok (.iconst 4, 1) := by decide +kernel
theorem dX7_ofParrots_48 : decode cX7_ofParrots 48 = .ok (.iadd, 1) := by decide +kernel
theorem dX7_ofParrots_49 : decode cX7_ofParrots 49 = .ok (.iaload, 1) := by decide +kernel
theorem dX7_ofParrots_50 : decode cX7_ofParrots 50 = .ok (.iadd, 1) := by decide +kernel
theorem dX7_ofParrots_51 : decode cX7_ofParrots 51 = .ok (.istore_n 2, 1) := by decide +kernel
theorem dX7_ofParrots_52 : decode cX7_ofParrots 52 = .ok (.iload_n 3, 1) := by decide +kernel
theorem dX7_ofParrots_53 : decode cX7_ofParrots 53 = .ok (.aload_n 0, 1) := by decide +kernel
theorem dX7_ofParrots_54 : decode cX7_ofParrots 54 = .ok (.iload 4, 2) := by decide +kernel
theorem dX7_ofParrots_56 : decode cX7_ofParrots 56 = .ok (.invokevirtual 87, 3) := by decide +kernel
theorem dX7_ofParrots_59 : decode cX7_ofParrots 59 = .ok (.ifCond .eq 10, 3) := by decide +kernel
theorem dX7_ofParrots_62 : decode cX7_ofParrots 62 = .ok (.iconst 1, 1) := by decide +kernel
theorem dX7_ofParrots_63 : decode cX7_ofParrots 63 = .ok (.iload 4, 2) := by decide +kernel
theorem dX7_ofParrots_65 : decode cX7_ofParrots 65 = .ok (.ishl, 1) := by decide +kernel
theorem dX7_ofParrots_66 : decode cX7_ofParrots 66 = .ok (.goto 4, 3) := by decide +kernel
theorem dX7_ofParrots_69 : decode cX7_ofParrots 69 = .ok (.iconst 0, 1) := by decide +kernel
theorem dX7_ofParrots_70 : decode cX7_ofParrots 70 = .ok (.ior, 1) := by decide +kernel
theorem dX7_ofParrots_71 : decode cX7_ofParrots 71 = .ok (.istore_n 3, 1) := by decide +kernel
theorem dX7_ofParrots_72 : decode cX7_ofParrots 72 = .ok (.iinc 4 1, 3) := by decide +kernel
theorem dX7_ofParrots_75 : decode cX7_ofParrots 75 = .ok (.goto (-68), 3) := by decide +kernel
theorem dX7_ofParrots_78 : decode cX7_ofParrots 78 = .ok (.iload_n 1, 1) := by decide +kernel
theorem dX7_ofParrots_79 : decode cX7_ofParrots 79 = .ok (.bipush 7, 2) := by decide +kernel
theorem dX7_ofParrots_81 : decode cX7_ofParrots 81 = .ok (.if_icmp .ne 7, 3) := by decide +kernel
theorem dX7_ofParrots_84 : decode cX7_ofParrots 84 = .ok (.iload_n 3, 1) := by decide +kernel
theorem dX7_ofParrots_85 : decode cX7_ofParrots 85 = .ok (.goto 4, 3) := by decide +kernel
theorem dX7_ofParrots_88 : decode cX7_ofParrots 88 = .ok (.iload_n 2, 1) := by decide +kernel
theorem dX7_ofParrots_89 : decode cX7_ofParrots 89 = .ok (.ireturn, 1) := by decide +kernel
theorem dX7_count_0 : decode cX7_count 0 = .ok (.iload_n 1, 1) := by decide +kernel
theorem dX7_count_1 : decode cX7_count 1 = .ok (.tableswitch 106 0 13 #[71, 71, 71, 71, 71, 80, 80, 80, 86, 86, 86, 86, 96, 101], 71) := by decide +kernel
theorem dX7_count_72 : decode cX7_count 72 = .ok (.aload_n 0, 1) := by decide +kernel
theorem dX7_count_73 : decode cX7_count 73 = .ok (.getfield 7, 3) := by decide +kernel
theorem dX7_count_76 : decode cX7_count 76 = .ok (.iconst 4, 1) := by decide +kernel
theorem dX7_count_77 : decode cX7_count 77 = .ok (.iload_n 1, 1) := by decide +kernel
theorem dX7_count_78 : decode cX7_count 78 = .ok (.iadd, 1) := by decide +kernel
theorem dX7_count_79 : decode cX7_count 79 = .ok (.iaload, 1) := by decide +kernel
theorem dX7_count_80 : decode cX7_count 80 = .ok (.ireturn, 1) := by decide +kernel
theorem dX7_count_81 : decode cX7_count 81 = .ok (.aload_n 0, 1) := by decide +kernel
theorem dX7_count_82 : decode cX7_count 82 = .ok (.iload_n 1, 1) := by decide +kernel
theorem dX7_count_83 : decode cX7_count 83 = .ok (.invokevirtual 137, 3) := by decide +kernel
theorem dX7_count_86 : decode cX7_count 86 = .ok (.ireturn, 1) := by decide +kernel
theorem dX7_count_87 : decode cX7_count 87 = .ok (.aload_n 0, 1) := by decide +kernel
theorem dX7_count_88 : decode cX7_count 88 = .ok (.getfield 7, 3) := by decide +kernel
theorem dX7_count_91 : decode cX7_count 91 = .ok (.iload_n 1, 1) := by decide +kernel
theorem dX7_count_92 : decode cX7_count 92 = .ok (.bipush 8, 2) := by decide +kernel
theorem dX7_count_94 : decode cX7_count 94 = .ok (.isub, 1) := by decide +kernel
theorem dX7_count_95 : decode cX7_count 95 = .ok (.iaload, 1) := by decide +kernel
theorem dX7_count_96 : decode cX7_count 96 = .ok (.ireturn, 1) := by decide +kernel
theorem dX7_count_97 : decode cX7_count 97 = .ok (.aload_n 0, 1) := by decide +kernel
theorem dX7_count_98 : decode cX7_count 98 = .ok (.getfield 140, 3) := by decide +kernel
theorem dX7_count_101 : decode cX7_count 101 = .ok (.ireturn, 1) := by decide +kernel
theorem dX7_count_102 : decode cX7_count 102 = .ok (.aload_n 0, 1) := by decide +kernel
theorem dX7_count_103 : decode cX7_count 103 = .ok (.getfield 43, 3) := by decide +kernel
theorem dX7_count_106 : decode cX7_count 106 = .ok (.ireturn, 1) := by decide +kernel
theorem dX7_count_107 : decode cX7_count 107 = .ok (.bipush (-2), 2) := by decide +kernel
theorem dX7_count_109 : decode cX7_count 109 = .ok (.ireturn, 1) := by decide +kernel
theorem dX7_hearsAll_0 : decode cX7_hearsAll 0 = .ok (.iconst 0, 1) := by decide +kernel
theorem dX7_hearsAll_1 : decode cX7_hearsAll 1 = .ok (.istore_n 3, 1) := by decide +kernel
theorem dX7_hearsAll_2 : decode cX7_hearsAll 2 = .ok (.iload_n 3, 1) := by decide +kernel
theorem dX7_hearsAll_3 : decode cX7_hearsAll 3 = .ok (.aload_n 0, 1) := by decide +kernel
theorem dX7_hearsAll_4 : decode cX7_hearsAll 4 = .ok (.getfield 7, 3) := by decide +kernel
theorem dX7_hearsAll_7 : decode cX7_hearsAll 7 = .ok (.iload_n 2, 1) := by decide +kernel
theorem dX7_hearsAll_8 : decode cX7_hearsAll 8 = .ok (.invokestatic 68, 3) := by decide +kernel
theorem dX7_hearsAll_11 : decode cX7_hearsAll 11 = .ok (.iaload, 1) := by decide +kernel
theorem dX7_hearsAll_12 : decode cX7_hearsAll 12 = .ok (.if_icmp .ge 27, 3) := by decide +kernel
theorem dX7_hearsAll_15 : decode cX7_hearsAll 15 = .ok (.aload_n 0, 1) := by decide +kernel
theorem dX7_hearsAll_16 : decode cX7_hearsAll 16 = .ok (.iload_n 1, 1) := by decide +kernel
theorem dX7_hearsAll_17 : decode cX7_hearsAll 17 = .ok (.aload_n 0, 1) := by decide +kernel
theorem dX7_hearsAll_18 : decode cX7_hearsAll 18 = .ok (.getfield 7, 3) := by decide +kernel
theorem dX7_hearsAll_21 : decode cX7_hearsAll 21 = .ok (.iload_n 2, 1) := by decide +kernel
theorem dX7_hearsAll_22 : decode cX7_hearsAll 22 = .ok (.invokestatic 68, 3) := by decide +kernel
theorem dX7_hearsAll_25 : decode cX7_hearsAll 25 = .ok (.iconst 2, 1) := by decide +kernel
theorem dX7_hearsAll_26 : decode cX7_hearsAll 26 = .ok (.iadd, 1) := by decide +kernel
theorem dX7_hearsAll_27 : decode cX7_hearsAll 27 = .ok (.iload_n 3, 1) := by decide +kernel
theorem dX7_hearsAll_28 : decode cX7_hearsAll 28 = .ok (.iadd, 1) := by decide +kernel
theorem dX7_hearsAll_29 : decode cX7_hearsAll 29 = .ok (.iaload, 1) := by decide +kernel
theorem dX7_hearsAll_30 : decode cX7_hearsAll 30 = .ok (.invokevirtual 90, 3) := by decide +kernel
theorem dX7_hearsAll_33 : decode cX7_hearsAll 33 = .ok (.iinc 3 1, 3) := by decide +kernel
theorem dX7_hearsAll_36 : decode cX7_hearsAll 36 = .ok (.goto (-34), 3) := by decide +kernel
theorem dX7_hearsAll_39 : decode cX7_hearsAll 39 = .ok (.return_, 1) := by decide +kernel
theorem dX7_lessonsFor_0 : decode cX7_lessonsFor 0 = .ok (.aload_n 0, 1) := by decide +kernel
theorem dX7_lessonsFor_1 : decode cX7_lessonsFor 1 = .ok (.iload_n 1, 1) := by decide +kernel
theorem dX7_lessonsFor_2 : decode cX7_lessonsFor 2 = .ok (.invokevirtual 80, 3) := by decide +kernel
theorem dX7_lessonsFor_5 : decode cX7_lessonsFor 5 = .ok (.ifCond .eq 11, 3) := by decide +kernel
theorem dX7_lessonsFor_8 : decode cX7_lessonsFor 8 = .ok (.aload_n 0, 1) := by decide +kernel
theorem dX7_lessonsFor_9 : decode cX7_lessonsFor 9 = .ok (.iload_n 2, 1) := by decide +kernel
theorem dX7_lessonsFor_10 : decode cX7_lessonsFor 10 = .ok (.invokevirtual 84, 3) := by decide +kernel
theorem dX7_lessonsFor_13 : decode cX7_lessonsFor 13 = .ok (.ifCond .ne 5, 3) := by decide +kernel
theorem dX7_lessonsFor_16 : decode cX7_lessonsFor 16 = .ok (.iconst (-1), 1) := by decide +kernel
theorem dX7_lessonsFor_17 : decode cX7_lessonsFor 17 = .ok (.ireturn, 1) := by decide +kernel
theorem dX7_lessonsFor_18 : decode cX7_lessonsFor 18 = .ok (.aload_n 0, 1) := by decide +kernel
theorem dX7_lessonsFor_19 : decode cX7_lessonsFor 19 = .ok (.invokevirtual 143, 3) := by decide +kernel
theorem dX7_lessonsFor_22 : decode cX7_lessonsFor 22 = .ok (.iconst 0, 1) := by decide +kernel
theorem dX7_lessonsFor_23 : decode cX7_lessonsFor 23 = .ok (.istore_n 3, 1) := by decide +kernel
theorem dX7_lessonsFor_24 : decode cX7_lessonsFor 24 = .ok (.iload_n 3, 1) := by decide +kernel
theorem dX7_lessonsFor_25 : decode cX7_lessonsFor 25 = .ok (.bipush 30, 2) := by decide +kernel
theorem dX7_lessonsFor_27 : decode cX7_lessonsFor 27 = .ok (.if_icmp .ge 38, 3) := by decide +kernel
theorem dX7_lessonsFor_30 : decode cX7_lessonsFor 30 = .ok (.aload_n 0, 1) := by decide +kernel
theorem dX7_lessonsFor_31 : decode cX7_lessonsFor 31 = .ok (.iload_n 1, 1) := by decide +kernel
theorem dX7_lessonsFor_32 : decode cX7_lessonsFor 32 = .ok (.iload_n 2, 1) := by decide +kernel
theorem dX7_lessonsFor_33 : decode cX7_lessonsFor 33 = .ok (.invokevirtual 77, 3) := by decide +kernel
theorem dX7_lessonsFor_36 : decode cX7_lessonsFor 36 = .ok (.bipush 100, 2) := by decide +kernel
theorem dX7_lessonsFor_38 : decode cX7_lessonsFor 38 = .ok (.if_icmp .ge 27, 3) := by decide +kernel
theorem dX7_lessonsFor_41 : decode cX7_lessonsFor 41 = .ok (.aload_n 0, 1) := by decide +kernel
theorem dX7_lessonsFor_42 : decode cX7_lessonsFor 42 = .ok (.getfield 7, 3) := by decide +kernel
theorem dX7_lessonsFor_45 : decode cX7_lessonsFor 45 = .ok (.iload_n 1, 1) := by decide +kernel
theorem dX7_lessonsFor_46 : decode cX7_lessonsFor 46 = .ok (.invokestatic 47, 3) := by decide +kernel
theorem dX7_lessonsFor_49 : decode cX7_lessonsFor 49 = .ok (.iconst 1, 1) := by decide +kernel
theorem dX7_lessonsFor_50 : decode cX7_lessonsFor 50 = .ok (.iadd, 1) := by decide +kernel
theorem dX7_lessonsFor_51 : decode cX7_lessonsFor 51 = .ok (.iconst (-1), 1) := by decide +kernel
theorem dX7_lessonsFor_52 : decode cX7_lessonsFor 52 = .ok (.iastore, 1) := by decide +kernel
theorem dX7_lessonsFor_53 : decode cX7_lessonsFor 53 = .ok (.aload_n 0, 1) := by decide +kernel
theorem dX7_lessonsFor_54 : decode cX7_lessonsFor 54 = .ok (.iload_n 1, 1) := by decide +kernel
theorem dX7_lessonsFor_55 : decode cX7_lessonsFor 55 = .ok (.iload_n 2, 1) := by decide +kernel
theorem dX7_lessonsFor_56 : decode cX7_lessonsFor 56 = .ok (.invokevirtual 146, 3) := by decide +kernel
theorem dX7_lessonsFor_59 : decode cX7_lessonsFor 59 = .ok (.iinc 3 1, 3) := by decide +kernel
theorem dX7_lessonsFor_62 : decode cX7_lessonsFor 62 = .ok (.goto (-38), 3) := by decide +kernel
theorem dX7_lessonsFor_65 : decode cX7_lessonsFor 65 = .ok (.aload_n 0, 1) := by decide +kernel
theorem dX7_lessonsFor_66 : decode cX7_lessonsFor 66 = .ok (.iload_n 1, 1) := by decide +kernel
theorem dX7_lessonsFor_67 : decode cX7_lessonsFor 67 = .ok (.iload_n 2, 1) := by decide +kernel
theorem dX7_lessonsFor_68 : decode cX7_lessonsFor 68 = .ok (.invokevirtual 77, 3) := by decide +kernel
end
section
theorem dX7_lessonsFor_71 : decode cX7_lessonsFor 71 = .ok (.bipush 100, 2) := by decide +kernel
theorem dX7_lessonsFor_73 : decode cX7_lessonsFor 73 = .ok (.if_icmp .ne 7, 3) := by decide +kernel
theorem dX7_lessonsFor_76 : decode cX7_lessonsFor 76 = .ok (.iconst 1, 1) := by decide +kernel
theorem dX7_lessonsFor_77 : decode cX7_lessonsFor 77 = .ok (.goto 4, 3) := by decide +kernel
theorem dX7_lessonsFor_80 : decode cX7_lessonsFor 80 = .ok (.iconst 0, 1) := by decide +kernel
theorem dX7_lessonsFor_81 : decode cX7_lessonsFor 81 = .ok (.istore 4, 2) := by decide +kernel
theorem dX7_lessonsFor_83 : decode cX7_lessonsFor 83 = .ok (.aload_n 0, 1) := by decide +kernel
theorem dX7_lessonsFor_84 : decode cX7_lessonsFor 84 = .ok (.invokevirtual 149, 3) := by decide +kernel
theorem dX7_lessonsFor_87 : decode cX7_lessonsFor 87 = .ok (.iload 4, 2) := by decide +kernel
theorem dX7_lessonsFor_89 : decode cX7_lessonsFor 89 = .ok (.ifCond .eq 7, 3) := by decide +kernel
theorem dX7_lessonsFor_92 : decode cX7_lessonsFor 92 = .ok (.iload_n 3, 1) := by decide +kernel
theorem dX7_lessonsFor_93 : decode cX7_lessonsFor 93 = .ok (.goto 5, 3) := by decide +kernel
theorem dX7_lessonsFor_96 : decode cX7_lessonsFor 96 = .ok (.bipush (-6), 2) := by decide +kernel
theorem dX7_lessonsFor_98 : decode cX7_lessonsFor 98 = .ok (.ireturn, 1) := by decide +kernel
theorem dX7_bestLesson_0 : decode cX7_bestLesson 0 = .ok (.aload_n 0, 1) := by decide +kernel
theorem dX7_bestLesson_1 : decode cX7_bestLesson 1 = .ok (.iload_n 1, 1) := by decide +kernel
theorem dX7_bestLesson_2 : decode cX7_bestLesson 2 = .ok (.invokevirtual 80, 3) := by decide +kernel
theorem dX7_bestLesson_5 : decode cX7_bestLesson 5 = .ok (.ifCond .ne 5, 3) := by decide +kernel
theorem dX7_bestLesson_8 : decode cX7_bestLesson 8 = .ok (.iconst (-1), 1) := by decide +kernel
theorem dX7_bestLesson_9 : decode cX7_bestLesson 9 = .ok (.ireturn, 1) := by decide +kernel
theorem dX7_bestLesson_10 : decode cX7_bestLesson 10 = .ok (.iload_n 2, 1) := by decide +kernel
theorem dX7_bestLesson_11 : decode cX7_bestLesson 11 = .ok (.iconst 0, 1) := by decide +kernel
theorem dX7_bestLesson_12 : decode cX7_bestLesson 12 = .ok (.iconst 1, 1) := by decide +kernel
theorem dX7_bestLesson_13 : decode cX7_bestLesson 13 = .ok (.invokestatic 39, 3) := by decide +kernel
theorem dX7_bestLesson_16 : decode cX7_bestLesson 16 = .ok (.ifCond .ne 6, 3) := by decide +kernel
theorem dX7_bestLesson_19 : decode cX7_bestLesson 19 = .ok (.bipush (-2), 2) := by decide +kernel
theorem dX7_bestLesson_21 : decode cX7_bestLesson 21 = .ok (.ireturn, 1) := by decide +kernel
theorem dX7_bestLesson_22 : decode cX7_bestLesson 22 = .ok (.aload_n 0, 1) := by decide +kernel
theorem dX7_bestLesson_23 : decode cX7_bestLesson 23 = .ok (.iload_n 1, 1) := by decide +kernel
theorem dX7_bestLesson_24 : decode cX7_bestLesson 24 = .ok (.invokevirtual 152, 3) := by decide +kernel
theorem dX7_bestLesson_27 : decode cX7_bestLesson 27 = .ok (.istore_n 3, 1) := by decide +kernel
theorem dX7_bestLesson_28 : decode cX7_bestLesson 28 = .ok (.bipush (-6), 2) := by decide +kernel
theorem dX7_bestLesson_30 : decode cX7_bestLesson 30 = .ok (.istore 4, 2) := by decide +kernel
theorem dX7_bestLesson_32 : decode cX7_bestLesson 32 = .ok (.iconst 0, 1) := by decide +kernel
theorem dX7_bestLesson_33 : decode cX7_bestLesson 33 = .ok (.istore 5, 2) := by decide +kernel
theorem dX7_bestLesson_35 : decode cX7_bestLesson 35 = .ok (.iload 5, 2) := by decide +kernel
theorem dX7_bestLesson_37 : decode cX7_bestLesson 37 = .ok (.aload_n 0, 1) := by decide +kernel
theorem dX7_bestLesson_38 : decode cX7_bestLesson 38 = .ok (.getfield 7, 3) := by decide +kernel
theorem dX7_bestLesson_41 : decode cX7_bestLesson 41 = .ok (.iconst 5, 1) := by decide +kernel
theorem dX7_bestLesson_42 : decode cX7_bestLesson 42 = .ok (.iaload, 1) := by decide +kernel
theorem dX7_bestLesson_43 : decode cX7_bestLesson 43 = .ok (.if_icmp .ge 59, 3) := by decide +kernel
theorem dX7_bestLesson_46 : decode cX7_bestLesson 46 = .ok (.aload_n 0, 1) := by decide +kernel
theorem dX7_bestLesson_47 : decode cX7_bestLesson 47 = .ok (.invokevirtual 143, 3) := by decide +kernel
theorem dX7_bestLesson_50 : decode cX7_bestLesson 50 = .ok (.aload_n 0, 1) := by decide +kernel
theorem dX7_bestLesson_51 : decode cX7_bestLesson 51 = .ok (.iload_n 1, 1) := by decide +kernel
theorem dX7_bestLesson_52 : decode cX7_bestLesson 52 = .ok (.iload 5, 2) := by decide +kernel
theorem dX7_bestLesson_54 : decode cX7_bestLesson 54 = .ok (.invokevirtual 146, 3) := by decide +kernel
theorem dX7_bestLesson_57 : decode cX7_bestLesson 57 = .ok (.aload_n 0, 1) := by decide +kernel
theorem dX7_bestLesson_58 : decode cX7_bestLesson 58 = .ok (.iload_n 1, 1) := by decide +kernel
theorem dX7_bestLesson_59 : decode cX7_bestLesson 59 = .ok (.invokevirtual 152, 3) := by decide +kernel
theorem dX7_bestLesson_62 : decode cX7_bestLesson 62 = .ok (.istore 6, 2) := by decide +kernel
theorem dX7_bestLesson_64 : decode cX7_bestLesson 64 = .ok (.aload_n 0, 1) := by decide +kernel
theorem dX7_bestLesson_65 : decode cX7_bestLesson 65 = .ok (.invokevirtual 149, 3) := by decide +kernel
theorem dX7_bestLesson_68 : decode cX7_bestLesson 68 = .ok (.iload 6, 2) := by decide +kernel
theorem dX7_bestLesson_70 : decode cX7_bestLesson 70 = .ok (.iload_n 3, 1) := by decide +kernel
theorem dX7_bestLesson_71 : decode cX7_bestLesson 71 = .ok (.if_icmp .le 8, 3) := by decide +kernel
theorem dX7_bestLesson_74 : decode cX7_bestLesson 74 = .ok (.iload 5, 2) := by decide +kernel
theorem dX7_bestLesson_76 : decode cX7_bestLesson 76 = .ok (.goto 5, 3) := by decide +kernel
theorem dX7_bestLesson_79 : decode cX7_bestLesson 79 = .ok (.iload 4, 2) := by decide +kernel
theorem dX7_bestLesson_81 : decode cX7_bestLesson 81 = .ok (.istore 4, 2) := by decide +kernel
theorem dX7_bestLesson_83 : decode cX7_bestLesson 83 = .ok (.iload 6, 2) := by decide +kernel
theorem dX7_bestLesson_85 : decode cX7_bestLesson 85 = .ok (.iload_n 3, 1) := by decide +kernel
theorem dX7_bestLesson_86 : decode cX7_bestLesson 86 = .ok (.if_icmp .le 8, 3) := by decide +kernel
theorem dX7_bestLesson_89 : decode cX7_bestLesson 89 = .ok (.iload 6, 2) := by decide +kernel
theorem dX7_bestLesson_91 : decode cX7_bestLesson 91 = .ok (.goto 4, 3) := by decide +kernel
theorem dX7_bestLesson_94 : decode cX7_bestLesson 94 = .ok (.iload_n 3, 1) := by decide +kernel
theorem dX7_bestLesson_95 : decode cX7_bestLesson 95 = .ok (.istore_n 3, 1) := by decide +kernel
theorem dX7_bestLesson_96 : decode cX7_bestLesson 96 = .ok (.iinc 5 1, 3) := by decide +kernel
theorem dX7_bestLesson_99 : decode cX7_bestLesson 99 = .ok (.goto (-64), 3) := by decide +kernel
theorem dX7_bestLesson_102 : decode cX7_bestLesson 102 = .ok (.iload 4, 2) := by decide +kernel
theorem dX7_bestLesson_104 : decode cX7_bestLesson 104 = .ok (.bipush (-6), 2) := by decide +kernel
theorem dX7_bestLesson_106 : decode cX7_bestLesson 106 = .ok (.if_icmp .eq 7, 3) := by decide +kernel
theorem dX7_bestLesson_109 : decode cX7_bestLesson 109 = .ok (.iload_n 2, 1) := by decide +kernel
theorem dX7_bestLesson_110 : decode cX7_bestLesson 110 = .ok (.ifCond .ne 8, 3) := by decide +kernel
theorem dX7_bestLesson_113 : decode cX7_bestLesson 113 = .ok (.iload 4, 2) := by decide +kernel
theorem dX7_bestLesson_115 : decode cX7_bestLesson 115 = .ok (.goto 4, 3) := by decide +kernel
theorem dX7_bestLesson_118 : decode cX7_bestLesson 118 = .ok (.iload_n 3, 1) := by decide +kernel
theorem dX7_bestLesson_119 : decode cX7_bestLesson 119 = .ok (.ireturn, 1) := by decide +kernel
theorem dX7_keeps_0 : decode cX7_keeps 0 = .ok (.aload_n 0, 1) := by decide +kernel
theorem dX7_keeps_1 : decode cX7_keeps 1 = .ok (.iload_n 1, 1) := by decide +kernel
theorem dX7_keeps_2 : decode cX7_keeps 2 = .ok (.invokevirtual 80, 3) := by decide +kernel
theorem dX7_keeps_5 : decode cX7_keeps 5 = .ok (.ifCond .eq 11, 3) := by decide +kernel
theorem dX7_keeps_8 : decode cX7_keeps 8 = .ok (.aload_n 0, 1) := by decide +kernel
theorem dX7_keeps_9 : decode cX7_keeps 9 = .ok (.iload_n 2, 1) := by decide +kernel
theorem dX7_keeps_10 : decode cX7_keeps 10 = .ok (.invokevirtual 84, 3) := by decide +kernel
theorem dX7_keeps_13 : decode cX7_keeps 13 = .ok (.ifCond .ne 5, 3) := by decide +kernel
theorem dX7_keeps_16 : decode cX7_keeps 16 = .ok (.iconst (-1), 1) := by decide +kernel
theorem dX7_keeps_17 : decode cX7_keeps 17 = .ok (.ireturn, 1) := by decide +kernel
theorem dX7_keeps_18 : decode cX7_keeps 18 = .ok (.aload_n 0, 1) := by decide +kernel
theorem dX7_keeps_19 : decode cX7_keeps 19 = .ok (.invokevirtual 143, 3) := by decide +kernel
theorem dX7_keeps_22 : decode cX7_keeps 22 = .ok (.iconst 0, 1) := by decide +kernel
theorem dX7_keeps_23 : decode cX7_keeps 23 = .ok (.istore_n 3, 1) := by decide +kernel
theorem dX7_keeps_24 : decode cX7_keeps 24 = .ok (.iload_n 3, 1) := by decide +kernel
theorem dX7_keeps_25 : decode cX7_keeps 25 = .ok (.bipush 30, 2) := by decide +kernel
theorem dX7_keeps_27 : decode cX7_keeps 27 = .ok (.if_icmp .ge 26, 3) := by decide +kernel
theorem dX7_keeps_30 : decode cX7_keeps 30 = .ok (.aload_n 0, 1) := by decide +kernel
theorem dX7_keeps_31 : decode cX7_keeps 31 = .ok (.iload_n 1, 1) := by decide +kernel
theorem dX7_keeps_32 : decode cX7_keeps 32 = .ok (.iload_n 2, 1) := by decide +kernel
theorem dX7_keeps_33 : decode cX7_keeps 33 = .ok (.invokevirtual 77, 3) := by decide +kernel
theorem dX7_keeps_36 : decode cX7_keeps 36 = .ok (.bipush 100, 2) := by decide +kernel
theorem dX7_keeps_38 : decode cX7_keeps 38 = .ok (.if_icmp .ne 15, 3) := by decide +kernel
theorem dX7_keeps_41 : decode cX7_keeps 41 = .ok (.aload_n 0, 1) := by decide +kernel
theorem dX7_keeps_42 : decode cX7_keeps 42 = .ok (.invokevirtual 96, 3) := by decide +kernel
theorem dX7_keeps_45 : decode cX7_keeps 45 = .ok (.istore 4, 2) := by decide +kernel
theorem dX7_keeps_47 : decode cX7_keeps 47 = .ok (.iinc 3 1, 3) := by decide +kernel
theorem dX7_keeps_50 : decode cX7_keeps 50 = .ok (.goto (-26), 3) := by decide +kernel
theorem dX7_keeps_53 : decode cX7_keeps 53 = .ok (.aload_n 0, 1) := by decide +kernel
theorem dX7_keeps_54 : decode cX7_keeps 54 = .ok (.iload_n 1, 1) := by decide +kernel
theorem dX7_keeps_55 : decode cX7_keeps 55 = .ok (.iload_n 2, 1) := by decide +kernel
theorem dX7_keeps_56 : decode cX7_keeps 56 = .ok (.invokevirtual 77, 3) := by decide +kernel
theorem dX7_keeps_59 : decode cX7_keeps 59 = .ok (.bipush 100, 2) := by decide +kernel
theorem dX7_keeps_61 : decode cX7_keeps 61 = .ok (.if_icmp .ge 7, 3) := by decide +kernel
theorem dX7_keeps_64 : decode cX7_keeps 64 = .ok (.iconst 1, 1) := by decide +kernel
theorem dX7_keeps_65 : decode cX7_keeps 65 = .ok (.goto 4, 3) := by decide +kernel
theorem dX7_keeps_68 : decode cX7_keeps 68 = .ok (.iconst 0, 1) := by decide +kernel
theorem dX7_keeps_69 : decode cX7_keeps 69 = .ok (.istore 4, 2) := by decide +kernel
theorem dX7_keeps_71 : decode cX7_keeps 71 = .ok (.aload_n 0, 1) := by decide +kernel
theorem dX7_keeps_72 : decode cX7_keeps 72 = .ok (.invokevirtual 149, 3) := by decide +kernel
theorem dX7_keeps_75 : decode cX7_keeps 75 = .ok (.iload 4, 2) := by decide +kernel
theorem dX7_keeps_77 : decode cX7_keeps 77 = .ok (.ifCond .eq 7, 3) := by decide +kernel
theorem dX7_keeps_80 : decode cX7_keeps 80 = .ok (.iload_n 3, 1) := by decide +kernel
theorem dX7_keeps_81 : decode cX7_keeps 81 = .ok (.goto 5, 3) := by decide +kernel
theorem dX7_keeps_84 : decode cX7_keeps 84 = .ok (.bipush (-6), 2) := by decide +kernel
theorem dX7_keeps_86 : decode cX7_keeps 86 = .ok (.ireturn, 1) := by decide +kernel
theorem dX7_isSign_0 : decode cX7_isSign 0 = .ok (.aload_n 0, 1) := by decide +kernel
theorem dX7_isSign_1 : decode cX7_isSign 1 = .ok (.getfield 155, 3) := by decide +kernel
theorem dX7_isSign_4 : decode cX7_isSign 4 = .ok (.aload_n 0, 1) := by decide +kernel
theorem dX7_isSign_5 : decode cX7_isSign 5 = .ok (.getfield 140, 3) := by decide +kernel
theorem dX7_isSign_8 : decode cX7_isSign 8 = .ok (.if_icmp .ge 33, 3) := by decide +kernel
theorem dX7_isSign_11 : decode cX7_isSign 11 = .ok (.aload_n 0, 1) := by decide +kernel
theorem dX7_isSign_12 : decode cX7_isSign 12 = .ok (.getfield 35, 3) := by decide +kernel
theorem dX7_isSign_15 : decode cX7_isSign 15 = .ok (.aload_n 0, 1) := by decide +kernel
theorem dX7_isSign_16 : decode cX7_isSign 16 = .ok (.getfield 155, 3) := by decide +kernel
theorem dX7_isSign_19 : decode cX7_isSign 19 = .ok (.caload, 1) := by decide +kernel
theorem dX7_isSign_20 : decode cX7_isSign 20 = .ok (.iload_n 1, 1) := by decide +kernel
theorem dX7_isSign_21 : decode cX7_isSign 21 = .ok (.if_icmp .lt 20, 3) := by decide +kernel
theorem dX7_isSign_24 : decode cX7_isSign 24 = .ok (.aload_n 0, 1) := by decide +kernel
theorem dX7_isSign_25 : decode cX7_isSign 25 = .ok (.getfield 35, 3) := by decide +kernel
theorem dX7_isSign_28 : decode cX7_isSign 28 = .ok (.aload_n 0, 1) := by decide +kernel
theorem dX7_isSign_29 : decode cX7_isSign 29 = .ok (.getfield 155, 3) := by decide +kernel
theorem dX7_isSign_32 : decode cX7_isSign 32 = .ok (.caload, 1) := by decide +kernel
theorem dX7_isSign_33 : decode cX7_isSign 33 = .ok (.iload_n 2, 1) := by decide +kernel
theorem dX7_isSign_34 : decode cX7_isSign 34 = .ok (.if_icmp .gt 7, 3) := by decide +kernel
theorem dX7_isSign_37 : decode cX7_isSign 37 = .ok (.iconst 1, 1) := by decide +kernel
theorem dX7_isSign_38 : decode cX7_isSign 38 = .ok (.goto 4, 3) := by decide +kernel
theorem dX7_isSign_41 : decode cX7_isSign 41 = .ok (.iconst 0, 1) := by decide +kernel
theorem dX7_isSign_42 : decode cX7_isSign 42 = .ok (.ireturn, 1) := by decide +kernel
theorem dX7_accepts_0 : decode cX7_accepts 0 = .ok (.aload_n 0, 1) := by decide +kernel
theorem dX7_accepts_1 : decode cX7_accepts 1 = .ok (.iload_n 1, 1) := by decide +kernel
theorem dX7_accepts_2 : decode cX7_accepts 2 = .ok (.iload_n 1, 1) := by decide +kernel
theorem dX7_accepts_3 : decode cX7_accepts 3 = .ok (.invokevirtual 158, 3) := by decide +kernel
theorem dX7_accepts_6 : decode cX7_accepts 6 = .ok (.istore_n 2, 1) := by decide +kernel
theorem dX7_accepts_7 : decode cX7_accepts 7 = .ok (.aload_n 0, 1) := by decide +kernel
theorem dX7_accepts_8 : decode cX7_accepts 8 = .ok (.dup, 1) := by decide +kernel
theorem dX7_accepts_9 : decode cX7_accepts 9 = .ok (.getfield 155, 3) := by decide +kernel
theorem dX7_accepts_12 : decode cX7_accepts 12 = .ok (.iload_n 2, 1) := by decide +kernel
theorem dX7_accepts_13 : decode cX7_accepts 13 = .ok (.ifCond .eq 7, 3) := by decide +kernel
theorem dX7_accepts_16 : decode cX7_accepts 16 = .ok (.iconst 1, 1) := by decide +kernel
theorem dX7_accepts_17 : decode cX7_accepts 17 = .ok (.goto 4, 3) := by decide +kernel
theorem dX7_accepts_20 : decode cX7_accepts 20 = .ok (.iconst 0, 1) := by decide +kernel
theorem dX7_accepts_21 : decode cX7_accepts 21 = .ok (.iadd, 1) := by decide +kernel
theorem dX7_accepts_22 : decode cX7_accepts 22 = .ok (.putfield 155, 3) := by decide +kernel
theorem dX7_accepts_25 : decode cX7_accepts 25 = .ok (.iload_n 2, 1) := by decide +kernel
theorem dX7_accepts_26 : decode cX7_accepts 26 = .ok (.ireturn, 1) := by decide +kernel
theorem dX7_digit_0 : decode cX7_digit 0 = .ok (.aload_n 0, 1) := by decide +kernel
theorem dX7_digit_1 : decode cX7_digit 1 = .ok (.bipush 48, 2) := by decide +kernel
theorem dX7_digit_3 : decode cX7_digit 3 = .ok (.bipush 57, 2) := by decide +kernel
theorem dX7_digit_5 : decode cX7_digit 5 = .ok (.invokevirtual 158, 3) := by decide +kernel
theorem dX7_digit_8 : decode cX7_digit 8 = .ok (.istore_n 2, 1) := by decide +kernel
theorem dX7_digit_9 : decode cX7_digit 9 = .ok (.aload_n 0, 1) := by decide +kernel
theorem dX7_digit_10 : decode cX7_digit 10 = .ok (.getfield 32, 3) := by decide +kernel
theorem dX7_digit_13 : decode cX7_digit 13 = .ok (.iconst 4, 1) := by decide +kernel
theorem dX7_digit_14 : decode cX7_digit 14 = .ok (.aload_n 0, 1) := by decide +kernel
theorem dX7_digit_15 : decode cX7_digit 15 = .ok (.getfield 162, 3) := by decide +kernel
theorem dX7_digit_18 : decode cX7_digit 18 = .ok (.imul, 1) := by decide +kernel
theorem dX7_digit_19 : decode cX7_digit 19 = .ok (.iload_n 1, 1) := by decide +kernel
theorem dX7_digit_20 : decode cX7_digit 20 = .ok (.iadd, 1) := by decide +kernel
theorem dX7_digit_21 : decode cX7_digit 21 = .ok (.iload_n 2, 1) := by decide +kernel
theorem dX7_digit_22 : decode cX7_digit 22 = .ok (.ifCond .eq 18, 3) := by decide +kernel
theorem dX7_digit_25 : decode cX7_digit 25 = .ok (.aload_n 0, 1) := by decide +kernel
theorem dX7_digit_26 : decode cX7_digit 26 = .ok (.getfield 35, 3) := by decide +kernel
theorem dX7_digit_29 : decode cX7_digit 29 = .ok (.aload_n 0, 1) := by decide +kernel
theorem dX7_digit_30 : decode cX7_digit 30 = .ok (.getfield 155, 3) := by decide +kernel
theorem dX7_digit_33 : decode cX7_digit 33 = .ok (.caload, 1) := by decide +kernel
theorem dX7_digit_34 : decode cX7_digit 34 = .ok (.bipush 48, 2) := by decide +kernel
theorem dX7_digit_36 : decode cX7_digit 36 = .ok (.isub, 1) := by decide +kernel
theorem dX7_digit_37 : decode cX7_digit 37 = .ok (.goto 4, 3) := by decide +kernel
theorem dX7_digit_40 : decode cX7_digit 40 = .ok (.iconst 0, 1) := by decide +kernel
theorem dX7_digit_41 : decode cX7_digit 41 = .ok (.iastore, 1) := by decide +kernel
theorem dX7_digit_42 : decode cX7_digit 42 = .ok (.aload_n 0, 1) := by decide +kernel
theorem dX7_digit_43 : decode cX7_digit 43 = .ok (.dup, 1) := by decide +kernel
theorem dX7_digit_44 : decode cX7_digit 44 = .ok (.getfield 155, 3) := by decide +kernel
theorem dX7_digit_47 : decode cX7_digit 47 = .ok (.iload_n 2, 1) := by decide +kernel
theorem dX7_digit_48 : decode cX7_digit 48 = .ok (.ifCond .eq 7, 3) := by decide +kernel
theorem dX7_digit_51 : decode cX7_digit 51 = .ok (.iconst 1, 1) := by decide +kernel
theorem dX7_digit_52 : decode cX7_digit 52 = .ok (.goto 4, 3) := by decide +kernel
theorem dX7_digit_55 : decode cX7_digit 55 = .ok (.iconst 0, 1) := by decide +kernel
theorem dX7_digit_56 : decode cX7_digit 56 = .ok (.iadd, 1) := by decide +kernel
theorem dX7_digit_57 : decode cX7_digit 57 = .ok (.putfield 155, 3) := by decide +kernel
theorem dX7_digit_60 : decode cX7_digit 60 = .ok (.iload_n 2, 1) := by decide +kernel
theorem dX7_digit_61 : decode cX7_digit 61 = .ok (.ireturn, 1) := by decide +kernel
theorem dX7_number_0 : decode cX7_number 0 = .ok (.aload_n 0, 1) := by decide +kernel
theorem dX7_number_1 : decode cX7_number 1 = .ok (.iload_n 1, 1) := by decide +kernel
theorem dX7_number_2 : decode cX7_number 2 = .ok (.invokevirtual 165, 3) := by decide +kernel
theorem dX7_number_5 : decode cX7_number 5 = .ok (.istore_n 2, 1) := by decide +kernel
theorem dX7_number_6 : decode cX7_number 6 = .ok (.iconst 4, 1) := by decide +kernel
theorem dX7_number_7 : decode cX7_number 7 = .ok (.aload_n 0, 1) := by decide +kernel
theorem dX7_number_8 : decode cX7_number 8 = .ok (.getfield 162, 3) := by decide +kernel
theorem dX7_number_11 : decode cX7_number 11 = .ok (.imul, 1) := by decide +kernel
theorem dX7_number_12 : decode cX7_number 12 = .ok (.iload_n 1, 1) := by decide +kernel
theorem dX7_number_13 : decode cX7_number 13 = .ok (.iadd, 1) := by decide +kernel
theorem dX7_number_14 : decode cX7_number 14 = .ok (.istore_n 3, 1) := by decide +kernel
theorem dX7_number_15 : decode cX7_number 15 = .ok (.iload_n 2, 1) := by decide +kernel
theorem dX7_number_16 : decode cX7_number 16 = .ok (.ifCond .eq 61, 3) := by decide +kernel
theorem dX7_number_19 : decode cX7_number 19 = .ok (.aload_n 0, 1) := by decide +kernel
theorem dX7_number_20 : decode cX7_number 20 = .ok (.getfield 32, 3) := by decide +kernel
theorem dX7_number_23 : decode cX7_number 23 = .ok (.iload_n 3, 1) := by decide +kernel
theorem dX7_number_24 : decode cX7_number 24 = .ok (.iaload, 1) := by decide +kernel
theorem dX7_number_25 : decode cX7_number 25 = .ok (.ifCond .le 52, 3) := by decide +kernel
theorem dX7_number_28 : decode cX7_number 28 = .ok (.aload_n 0, 1) := by decide +kernel
theorem dX7_number_29 : decode cX7_number 29 = .ok (.bipush 48, 2) := by decide +kernel
theorem dX7_number_31 : decode cX7_number 31 = .ok (.bipush 57, 2) := by decide +kernel
theorem dX7_number_33 : decode cX7_number 33 = .ok (.invokevirtual 158, 3) := by decide +kernel
theorem dX7_number_36 : decode cX7_number 36 = .ok (.ifCond .eq 41, 3) := by decide +kernel
theorem dX7_number_39 : decode cX7_number 39 = .ok (.aload_n 0, 1) := by decide +kernel
theorem dX7_number_40 : decode cX7_number 40 = .ok (.getfield 32, 3) := by decide +kernel
theorem dX7_number_43 : decode cX7_number 43 = .ok (.iload_n 3, 1) := by decide +kernel
theorem dX7_number_44 : decode cX7_number 44 = .ok (.bipush 10, 2) := by decide +kernel
theorem dX7_number_46 : decode cX7_number 46 = .ok (.aload_n 0, 1) := by decide +kernel
theorem dX7_number_47 : decode cX7_number 47 = .ok (.getfield 32, 3) := by decide +kernel
theorem dX7_number_50 : decode cX7_number 50 = .ok (.iload_n 3, 1) := by decide +kernel
theorem dX7_number_51 : decode cX7_number 51 = .ok (.iaload, 1) := by decide +kernel
theorem dX7_number_52 : decode cX7_number 52 = .ok (.imul, 1) := by decide +kernel
theorem dX7_number_53 : decode cX7_number 53 = .ok (.aload_n 0, 1) := by decide +kernel
theorem dX7_number_54 : decode cX7_number 54 = .ok (.getfield 35, 3) := by decide +kernel
theorem dX7_number_57 : decode cX7_number 57 = .ok (.aload_n 0, 1) := by decide +kernel
theorem dX7_number_58 : decode cX7_number 58 = .ok (.getfield 155, 3) := by decide +kernel
theorem dX7_number_61 : decode cX7_number 61 = .ok (.caload, 1) := by decide +kernel
theorem dX7_number_62 : decode cX7_number 62 = .ok (.iadd, 1) := by decide +kernel
theorem dX7_number_63 : decode cX7_number 63 = .ok (.bipush 48, 2) := by decide +kernel
theorem dX7_number_65 : decode cX7_number 65 = .ok (.isub, 1) := by decide +kernel
theorem dX7_number_66 : decode cX7_number 66 = .ok (.iastore, 1) := by decide +kernel
theorem dX7_number_67 : decode cX7_number 67 = .ok (.aload_n 0, 1) := by decide +kernel
theorem dX7_number_68 : decode cX7_number 68 = .ok (.dup, 1) := by decide +kernel
theorem dX7_number_69 : decode cX7_number 69 = .ok (.getfield 155, 3) := by decide +kernel
theorem dX7_number_72 : decode cX7_number 72 = .ok (.iconst 1, 1) := by decide +kernel
theorem dX7_number_73 : decode cX7_number 73 = .ok (.iadd, 1) := by decide +kernel
theorem dX7_number_74 : decode cX7_number 74 = .ok (.putfield 155, 3) := by decide +kernel
theorem dX7_number_77 : decode cX7_number 77 = .ok (.iload_n 2, 1) := by decide +kernel
theorem dX7_number_78 : decode cX7_number 78 = .ok (.ireturn, 1) := by decide +kernel
theorem dX7_letters_0 : decode cX7_letters 0 = .ok (.iconst 4, 1) := by decide +kernel
theorem dX7_letters_1 : decode cX7_letters 1 = .ok (.aload_n 0, 1) := by decide +kernel
theorem dX7_letters_2 : decode cX7_letters 2 = .ok (.getfield 162, 3) := by decide +kernel
theorem dX7_letters_5 : decode cX7_letters 5 = .ok (.imul, 1) := by decide +kernel
theorem dX7_letters_6 : decode cX7_letters 6 = .ok (.istore_n 1, 1) := by decide +kernel
theorem dX7_letters_7 : decode cX7_letters 7 = .ok (.aload_n 0, 1) := by decide +kernel
theorem dX7_letters_8 : decode cX7_letters 8 = .ok (.getfield 32, 3) := by decide +kernel
theorem dX7_letters_11 : decode cX7_letters 11 = .ok (.iload_n 1, 1) := by decide +kernel
theorem dX7_letters_12 : decode cX7_letters 12 = .ok (.iconst 1, 1) := by decide +kernel
theorem dX7_letters_13 : decode cX7_letters 13 = .ok (.iadd, 1) := by decide +kernel
theorem dX7_letters_14 : decode cX7_letters 14 = .ok (.aload_n 0, 1) := by decide +kernel
theorem dX7_letters_15 : decode cX7_letters 15 = .ok (.getfield 155, 3) := by decide +kernel
theorem dX7_letters_18 : decode cX7_letters 18 = .ok (.iastore, 1) := by decide +kernel
theorem dX7_letters_19 : decode cX7_letters 19 = .ok (.aload_n 0, 1) := by decide +kernel
theorem dX7_letters_20 : decode cX7_letters 20 = .ok (.getfield 155, 3) := by decide +kernel
theorem dX7_letters_23 : decode cX7_letters 23 = .ok (.aload_n 0, 1) := by decide +kernel
theorem dX7_letters_24 : decode cX7_letters 24 = .ok (.getfield 32, 3) := by decide +kernel
theorem dX7_letters_27 : decode cX7_letters 27 = .ok (.iload_n 1, 1) := by decide +kernel
theorem dX7_letters_28 : decode cX7_letters 28 = .ok (.iconst 1, 1) := by decide +kernel
theorem dX7_letters_29 : decode cX7_letters 29 = .ok (.iadd, 1) := by decide +kernel
theorem dX7_letters_30 : decode cX7_letters 30 = .ok (.iaload, 1) := by decide +kernel
theorem dX7_letters_31 : decode cX7_letters 31 = .ok (.isub, 1) := by decide +kernel
theorem dX7_letters_32 : decode cX7_letters 32 = .ok (.bipush 20, 2) := by decide +kernel
theorem dX7_letters_34 : decode cX7_letters 34 = .ok (.if_icmp .ge 27, 3) := by decide +kernel
theorem dX7_letters_37 : decode cX7_letters 37 = .ok (.aload_n 0, 1) := by decide +kernel
theorem dX7_letters_38 : decode cX7_letters 38 = .ok (.bipush 97, 2) := by decide +kernel
theorem dX7_letters_40 : decode cX7_letters 40 = .ok (.bipush 122, 2) := by decide +kernel
theorem dX7_letters_42 : decode cX7_letters 42 = .ok (.invokevirtual 158, 3) := by decide +kernel
theorem dX7_letters_45 : decode cX7_letters 45 = .ok (.ifCond .eq 16, 3) := by decide +kernel
theorem dX7_letters_48 : decode cX7_letters 48 = .ok (.aload_n 0, 1) := by decide +kernel
theorem dX7_letters_49 : decode cX7_letters 49 = .ok (.dup, 1) := by decide +kernel
theorem dX7_letters_50 : decode cX7_letters 50 = .ok (.getfield 155, 3) := by decide +kernel
theorem dX7_letters_53 : decode cX7_letters 53 = .ok (.iconst 1, 1) := by decide +kernel
theorem dX7_letters_54 : decode cX7_letters 54 = .ok (.iadd, 1) := by decide +kernel
theorem dX7_letters_55 : decode cX7_letters 55 = .ok (.putfield 155, 3) := by decide +kernel
theorem dX7_letters_58 : decode cX7_letters 58 = .ok (.goto (-39), 3) := by decide +kernel
theorem dX7_letters_61 : decode cX7_letters 61 = .ok (.aload_n 0, 1) := by decide +kernel
theorem dX7_letters_62 : decode cX7_letters 62 = .ok (.getfield 32, 3) := by decide +kernel
theorem dX7_letters_65 : decode cX7_letters 65 = .ok (.iload_n 1, 1) := by decide +kernel
theorem dX7_letters_66 : decode cX7_letters 66 = .ok (.iconst 2, 1) := by decide +kernel
theorem dX7_letters_67 : decode cX7_letters 67 = .ok (.iadd, 1) := by decide +kernel
theorem dX7_letters_68 : decode cX7_letters 68 = .ok (.aload_n 0, 1) := by decide +kernel
theorem dX7_letters_69 : decode cX7_letters 69 = .ok (.getfield 155, 3) := by decide +kernel
theorem dX7_letters_72 : decode cX7_letters 72 = .ok (.aload_n 0, 1) := by decide +kernel
theorem dX7_letters_73 : decode cX7_letters 73 = .ok (.getfield 32, 3) := by decide +kernel
theorem dX7_letters_76 : decode cX7_letters 76 = .ok (.iload_n 1, 1) := by decide +kernel
theorem dX7_letters_77 : decode cX7_letters 77 = .ok (.iconst 1, 1) := by decide +kernel
theorem dX7_letters_78 : decode cX7_letters 78 = .ok (.iadd, 1) := by decide +kernel
theorem dX7_letters_79 : decode cX7_letters 79 = .ok (.iaload, 1) := by decide +kernel
theorem dX7_letters_80 : decode cX7_letters 80 = .ok (.isub, 1) := by decide +kernel
theorem dX7_letters_81 : decode cX7_letters 81 = .ok (.iastore, 1) := by decide +kernel
theorem dX7_letters_82 : decode cX7_letters 82 = .ok (.aload_n 0, 1) := by decide +kernel
theorem dX7_letters_83 : decode cX7_letters 83 = .ok (.getfield 32, 3) := by decide +kernel
theorem dX7_letters_86 : decode cX7_letters 86 = .ok (.iload_n 1, 1) := by decide +kernel
theorem dX7_letters_87 : decode cX7_letters 87 = .ok (.iconst 2, 1) := by decide +kernel
theorem dX7_letters_88 : decode cX7_letters 88 = .ok (.iadd, 1) := by decide +kernel
theorem dX7_letters_89 : decode cX7_letters 89 = .ok (.iaload, 1) := by decide +kernel
theorem dX7_letters_90 : decode cX7_letters 90 = .ok (.ifCond .le 7, 3) := by decide +kernel
theorem dX7_letters_93 : decode cX7_letters 93 = .ok (.iconst 1, 1) := by decide +kernel
theorem dX7_letters_94 : decode cX7_letters 94 = .ok (.goto 4, 3) := by decide +kernel
theorem dX7_letters_97 : decode cX7_letters 97 = .ok (.iconst 0, 1) := by decide +kernel
theorem dX7_letters_98 : decode cX7_letters 98 = .ok (.ireturn, 1) := by decide +kernel
theorem dX7_readsOrder_0 : decode cX7_readsOrder 0 = .ok (.aload_n 0, 1) := by decide +kernel
theorem dX7_readsOrder_1 : decode cX7_readsOrder 1 = .ok (.getfield 32, 3) := by decide +kernel
theorem dX7_readsOrder_4 : decode cX7_readsOrder 4 = .ok (.iconst 4, 1) := by decide +kernel
theorem dX7_readsOrder_5 : decode cX7_readsOrder 5 = .ok (.aload_n 0, 1) := by decide +kernel
theorem dX7_readsOrder_6 : decode cX7_readsOrder 6 = .ok (.getfield 162, 3) := by decide +kernel
theorem dX7_readsOrder_9 : decode cX7_readsOrder 9 = .ok (.imul, 1) := by decide +kernel
theorem dX7_readsOrder_10 : decode cX7_readsOrder 10 = .ok (.aload_n 0, 1) := by decide +kernel
theorem dX7_readsOrder_11 : decode cX7_readsOrder 11 = .ok (.getfield 155, 3) := by decide +kernel
theorem dX7_readsOrder_14 : decode cX7_readsOrder 14 = .ok (.aload_n 0, 1) := by decide +kernel
theorem dX7_readsOrder_15 : decode cX7_readsOrder 15 = .ok (.getfield 140, 3) := by decide +kernel
theorem dX7_readsOrder_18 : decode cX7_readsOrder 18 = .ok (.if_icmp .ge 15, 3) := by decide +kernel
theorem dX7_readsOrder_21 : decode cX7_readsOrder 21 = .ok (.aload_n 0, 1) := by decide +kernel
theorem dX7_readsOrder_22 : decode cX7_readsOrder 22 = .ok (.getfield 35, 3) := by decide +kernel
theorem dX7_readsOrder_25 : decode cX7_readsOrder 25 = .ok (.aload_n 0, 1) := by decide +kernel
theorem dX7_readsOrder_26 : decode cX7_readsOrder 26 = .ok (.getfield 155, 3) := by decide +kernel
theorem dX7_readsOrder_29 : decode cX7_readsOrder 29 = .ok (.caload, 1) := by decide +kernel
theorem dX7_readsOrder_30 : decode cX7_readsOrder 30 = .ok (.goto 4, 3) := by decide +kernel
theorem dX7_readsOrder_33 : decode cX7_readsOrder 33 = .ok (.iconst 0, 1) := by decide +kernel
theorem dX7_readsOrder_34 : decode cX7_readsOrder 34 = .ok (.iastore, 1) := by decide +kernel
theorem dX7_readsOrder_35 : decode cX7_readsOrder 35 = .ok (.aload_n 0, 1) := by decide +kernel
theorem dX7_readsOrder_36 : decode cX7_readsOrder 36 = .ok (.getfield 32, 3) := by decide +kernel
theorem dX7_readsOrder_39 : decode cX7_readsOrder 39 = .ok (.iconst 4, 1) := by decide +kernel
theorem dX7_readsOrder_40 : decode cX7_readsOrder 40 = .ok (.aload_n 0, 1) := by decide +kernel
theorem dX7_readsOrder_41 : decode cX7_readsOrder 41 = .ok (.getfield 162, 3) := by decide +kernel
theorem dX7_readsOrder_44 : decode cX7_readsOrder 44 = .ok (.imul, 1) := by decide +kernel
theorem dX7_readsOrder_45 : decode cX7_readsOrder 45 = .ok (.iconst 3, 1) := by decide +kernel
theorem dX7_readsOrder_46 : decode cX7_readsOrder 46 = .ok (.iadd, 1) := by decide +kernel
theorem dX7_readsOrder_47 : decode cX7_readsOrder 47 = .ok (.iconst 0, 1) := by decide +kernel
theorem dX7_readsOrder_48 : decode cX7_readsOrder 48 = .ok (.iastore, 1) := by decide +kernel
theorem dX7_readsOrder_49 : decode cX7_readsOrder 49 = .ok (.aload_n 0, 1) := by decide +kernel
theorem dX7_readsOrder_50 : decode cX7_readsOrder 50 = .ok (.bipush 83, 2) := by decide +kernel
theorem dX7_readsOrder_52 : decode cX7_readsOrder 52 = .ok (.invokevirtual 168, 3) := by decide +kernel
theorem dX7_readsOrder_55 : decode cX7_readsOrder 55 = .ok (.ifCond .eq 11, 3) := by decide +kernel
theorem dX7_readsOrder_58 : decode cX7_readsOrder 58 = .ok (.aload_n 0, 1) := by decide +kernel
theorem dX7_readsOrder_59 : decode cX7_readsOrder 59 = .ok (.invokevirtual 172, 3) := by decide +kernel
theorem dX7_readsOrder_62 : decode cX7_readsOrder 62 = .ok (.istore_n 1, 1) := by decide +kernel
theorem dX7_readsOrder_63 : decode cX7_readsOrder 63 = .ok (.goto 148, 3) := by decide +kernel
theorem dX7_readsOrder_66 : decode cX7_readsOrder 66 = .ok (.aload_n 0, 1) := by decide +kernel
theorem dX7_readsOrder_67 : decode cX7_readsOrder 67 = .ok (.bipush 76, 2) := by decide +kernel
theorem dX7_readsOrder_69 : decode cX7_readsOrder 69 = .ok (.invokevirtual 168, 3) := by decide +kernel
theorem dX7_readsOrder_72 : decode cX7_readsOrder 72 = .ok (.ifCond .eq 54, 3) := by decide +kernel
theorem dX7_readsOrder_75 : decode cX7_readsOrder 75 = .ok (.aload_n 0, 1) := by decide +kernel
theorem dX7_readsOrder_76 : decode cX7_readsOrder 76 = .ok (.iconst 1, 1) := by decide +kernel
theorem dX7_readsOrder_77 : decode cX7_readsOrder 77 = .ok (.invokevirtual 165, 3) := by decide +kernel
theorem dX7_readsOrder_80 : decode cX7_readsOrder 80 = .ok (.ifCond .eq 41, 3) := by decide +kernel
theorem dX7_readsOrder_83 : decode cX7_readsOrder 83 = .ok (.aload_n 0, 1) := by decide +kernel
theorem dX7_readsOrder_84 : decode cX7_readsOrder 84 = .ok (.bipush 46, 2) := by decide +kernel
theorem dX7_readsOrder_86 : decode cX7_readsOrder 86 = .ok (.invokevirtual 168, 3) := by decide +kernel
theorem dX7_readsOrder_89 : decode cX7_readsOrder 89 = .ok (.ifCond .eq 32, 3) := by decide +kernel
theorem dX7_readsOrder_92 : decode cX7_readsOrder 92 = .ok (.aload_n 0, 1) := by decide +kernel
theorem dX7_readsOrder_93 : decode cX7_readsOrder 93 = .ok (.iconst 2, 1) := by decide +kernel
theorem dX7_readsOrder_94 : decode cX7_readsOrder 94 = .ok (.invokevirtual 165, 3) := by decide +kernel
theorem dX7_readsOrder_97 : decode cX7_readsOrder 97 = .ok (.ifCond .eq 24, 3) := by decide +kernel
theorem dX7_readsOrder_100 : decode cX7_readsOrder 100 = .ok (.aload_n 0, 1) := by decide +kernel
theorem dX7_readsOrder_101 : decode cX7_readsOrder 101 = .ok (.bipush 47, 2) := by decide +kernel
theorem dX7_readsOrder_103 : decode cX7_readsOrder 103 = .ok (.invokevirtual 168, 3) := by decide +kernel
theorem dX7_readsOrder_106 : decode cX7_readsOrder 106 = .ok (.ifCond .eq 11, 3) := by decide +kernel
theorem dX7_readsOrder_109 : decode cX7_readsOrder 109 = .ok (.aload_n 0, 1) := by decide +kernel
theorem dX7_readsOrder_110 : decode cX7_readsOrder 110 = .ok (.iconst 3, 1) := by decide +kernel
theorem dX7_readsOrder_111 : decode cX7_readsOrder 111 = .ok (.invokevirtual 176, 3) := by decide +kernel
theorem dX7_readsOrder_114 : decode cX7_readsOrder 114 = .ok (.ifCond .eq 7, 3) := by decide +kernel
theorem dX7_readsOrder_117 : decode cX7_readsOrder 117 = .ok (.iconst 1, 1) := by decide +kernel
theorem dX7_readsOrder_118 : decode cX7_readsOrder 118 = .ok (.goto 4, 3) := by decide +kernel
theorem dX7_readsOrder_121 : decode cX7_readsOrder 121 = .ok (.iconst 0, 1) := by decide +kernel
theorem dX7_readsOrder_122 : decode cX7_readsOrder 122 = .ok (.istore_n 1, 1) := by decide +kernel
theorem dX7_readsOrder_123 : decode cX7_readsOrder 123 = .ok (.goto 88, 3) := by decide +kernel
theorem dX7_readsOrder_126 : decode cX7_readsOrder 126 = .ok (.aload_n 0, 1) := by decide +kernel
theorem dX7_readsOrder_127 : decode cX7_readsOrder 127 = .ok (.bipush 72, 2) := by decide +kernel
theorem dX7_readsOrder_129 : decode cX7_readsOrder 129 = .ok (.invokevirtual 168, 3) := by decide +kernel
theorem dX7_readsOrder_132 : decode cX7_readsOrder 132 = .ok (.ifCond .eq 12, 3) := by decide +kernel
theorem dX7_readsOrder_135 : decode cX7_readsOrder 135 = .ok (.aload_n 0, 1) := by decide +kernel
theorem dX7_readsOrder_136 : decode cX7_readsOrder 136 = .ok (.iconst 1, 1) := by decide +kernel
theorem dX7_readsOrder_137 : decode cX7_readsOrder 137 = .ok (.invokevirtual 165, 3) := by decide +kernel
theorem dX7_readsOrder_140 : decode cX7_readsOrder 140 = .ok (.istore_n 1, 1) := by decide +kernel
theorem dX7_readsOrder_141 : decode cX7_readsOrder 141 = .ok (.goto 70, 3) := by decide +kernel
theorem dX7_readsOrder_144 : decode cX7_readsOrder 144 = .ok (.aload_n 0, 1) := by decide +kernel
theorem dX7_readsOrder_145 : decode cX7_readsOrder 145 = .ok (.bipush 80, 2) := by decide +kernel
theorem dX7_readsOrder_147 : decode cX7_readsOrder 147 = .ok (.invokevirtual 168, 3) := by decide +kernel
theorem dX7_readsOrder_150 : decode cX7_readsOrder 150 = .ok (.ifCond .eq 37, 3) := by decide +kernel
theorem dX7_readsOrder_153 : decode cX7_readsOrder 153 = .ok (.aload_n 0, 1) := by decide +kernel
theorem dX7_readsOrder_154 : decode cX7_readsOrder 154 = .ok (.iconst 1, 1) := by decide +kernel
theorem dX7_readsOrder_155 : decode cX7_readsOrder 155 = .ok (.invokevirtual 165, 3) := by decide +kernel
theorem dX7_readsOrder_158 : decode cX7_readsOrder 158 = .ok (.ifCond .eq 24, 3) := by decide +kernel
theorem dX7_readsOrder_161 : decode cX7_readsOrder 161 = .ok (.aload_n 0, 1) := by decide +kernel
theorem dX7_readsOrder_162 : decode cX7_readsOrder 162 = .ok (.bipush 42, 2) := by decide +kernel
theorem dX7_readsOrder_164 : decode cX7_readsOrder 164 = .ok (.invokevirtual 168, 3) := by decide +kernel
theorem dX7_readsOrder_167 : decode cX7_readsOrder 167 = .ok (.ifCond .eq 15, 3) := by decide +kernel
theorem dX7_readsOrder_170 : decode cX7_readsOrder 170 = .ok (.aload_n 0, 1) := by decide +kernel
theorem dX7_readsOrder_171 : decode cX7_readsOrder 171 = .ok (.iconst 2, 1) := by decide +kernel
theorem dX7_readsOrder_172 : decode cX7_readsOrder 172 = .ok (.invokevirtual 176, 3) := by decide +kernel
theorem dX7_readsOrder_175 : decode cX7_readsOrder 175 = .ok (.ifCond .eq 7, 3) := by decide +kernel
theorem dX7_readsOrder_178 : decode cX7_readsOrder 178 = .ok (.iconst 1, 1) := by decide +kernel
theorem dX7_readsOrder_179 : decode cX7_readsOrder 179 = .ok (.goto 4, 3) := by decide +kernel
theorem dX7_readsOrder_182 : decode cX7_readsOrder 182 = .ok (.iconst 0, 1) := by decide +kernel
theorem dX7_readsOrder_183 : decode cX7_readsOrder 183 = .ok (.istore_n 1, 1) := by decide +kernel
theorem dX7_readsOrder_184 : decode cX7_readsOrder 184 = .ok (.goto 27, 3) := by decide +kernel
theorem dX7_readsOrder_187 : decode cX7_readsOrder 187 = .ok (.aload_n 0, 1) := by decide +kernel
theorem dX7_readsOrder_188 : decode cX7_readsOrder 188 = .ok (.bipush 66, 2) := by decide +kernel
theorem dX7_readsOrder_190 : decode cX7_readsOrder 190 = .ok (.invokevirtual 168, 3) := by decide +kernel
theorem dX7_readsOrder_193 : decode cX7_readsOrder 193 = .ok (.ifCond .ne 12, 3) := by decide +kernel
theorem dX7_readsOrder_196 : decode cX7_readsOrder 196 = .ok (.aload_n 0, 1) := by decide +kernel
theorem dX7_readsOrder_197 : decode cX7_readsOrder 197 = .ok (.bipush 78, 2) := by decide +kernel
theorem dX7_readsOrder_199 : decode cX7_readsOrder 199 = .ok (.invokevirtual 168, 3) := by decide +kernel
theorem dX7_readsOrder_202 : decode cX7_readsOrder 202 = .ok (.ifCond .eq 7, 3) := by decide +kernel
theorem dX7_readsOrder_205 : decode cX7_readsOrder 205 = .ok (.iconst 1, 1) := by decide +kernel
theorem dX7_readsOrder_206 : decode cX7_readsOrder 206 = .ok (.goto 4, 3) := by decide +kernel
theorem dX7_readsOrder_209 : decode cX7_readsOrder 209 = .ok (.iconst 0, 1) := by decide +kernel
theorem dX7_readsOrder_210 : decode cX7_readsOrder 210 = .ok (.istore_n 1, 1) := by decide +kernel
theorem dX7_readsOrder_211 : decode cX7_readsOrder 211 = .ok (.aload_n 0, 1) := by decide +kernel
theorem dX7_readsOrder_212 : decode cX7_readsOrder 212 = .ok (.dup, 1) := by decide +kernel
theorem dX7_readsOrder_213 : decode cX7_readsOrder 213 = .ok (.getfield 162, 3) := by decide +kernel
theorem dX7_readsOrder_216 : decode cX7_readsOrder 216 = .ok (.iload_n 1, 1) := by decide +kernel
theorem dX7_readsOrder_217 : decode cX7_readsOrder 217 = .ok (.ifCond .eq 7, 3) := by decide +kernel
theorem dX7_readsOrder_220 : decode cX7_readsOrder 220 = .ok (.iconst 1, 1) := by decide +kernel
theorem dX7_readsOrder_221 : decode cX7_readsOrder 221 = .ok (.goto 4, 3) := by decide +kernel
theorem dX7_readsOrder_224 : decode cX7_readsOrder 224 = .ok (.iconst 0, 1) := by decide +kernel
theorem dX7_readsOrder_225 : decode cX7_readsOrder 225 = .ok (.iadd, 1) := by decide +kernel
theorem dX7_readsOrder_226 : decode cX7_readsOrder 226 = .ok (.putfield 162, 3) := by decide +kernel
theorem dX7_readsOrder_229 : decode cX7_readsOrder 229 = .ok (.iload_n 1, 1) := by decide +kernel
theorem dX7_readsOrder_230 : decode cX7_readsOrder 230 = .ok (.ireturn, 1) := by decide +kernel
theorem dX7_faultOf_0 : decode cX7_faultOf 0 = .ok (.aload_n 0, 1) := by decide +kernel
theorem dX7_faultOf_1 : decode cX7_faultOf 1 = .ok (.iconst 0, 1) := by decide +kernel
theorem dX7_faultOf_2 : decode cX7_faultOf 2 = .ok (.putfield 155, 3) := by decide +kernel
theorem dX7_faultOf_5 : decode cX7_faultOf 5 = .ok (.aload_n 0, 1) := by decide +kernel
theorem dX7_faultOf_6 : decode cX7_faultOf 6 = .ok (.iconst 0, 1) := by decide +kernel
theorem dX7_faultOf_7 : decode cX7_faultOf 7 = .ok (.putfield 162, 3) := by decide +kernel
theorem dX7_faultOf_10 : decode cX7_faultOf 10 = .ok (.aload_n 0, 1) := by decide +kernel
theorem dX7_faultOf_11 : decode cX7_faultOf 11 = .ok (.invokevirtual 179, 3) := by decide +kernel
theorem dX7_faultOf_14 : decode cX7_faultOf 14 = .ok (.istore_n 1, 1) := by decide +kernel
theorem dX7_faultOf_15 : decode cX7_faultOf 15 = .ok (.iload_n 1, 1) := by decide +kernel
theorem dX7_faultOf_16 : decode cX7_faultOf 16 = .ok (.ifCond .eq 39, 3) := by decide +kernel
theorem dX7_faultOf_19 : decode cX7_faultOf 19 = .ok (.aload_n 0, 1) := by decide +kernel
theorem dX7_faultOf_20 : decode cX7_faultOf 20 = .ok (.getfield 155, 3) := by decide +kernel
theorem dX7_faultOf_23 : decode cX7_faultOf 23 = .ok (.aload_n 0, 1) := by decide +kernel
theorem dX7_faultOf_24 : decode cX7_faultOf 24 = .ok (.getfield 140, 3) := by decide +kernel
theorem dX7_faultOf_27 : decode cX7_faultOf 27 = .ok (.if_icmp .ge 28, 3) := by decide +kernel
theorem dX7_faultOf_30 : decode cX7_faultOf 30 = .ok (.aload_n 0, 1) := by decide +kernel
theorem dX7_faultOf_31 : decode cX7_faultOf 31 = .ok (.bipush 59, 2) := by decide +kernel
theorem dX7_faultOf_33 : decode cX7_faultOf 33 = .ok (.invokevirtual 168, 3) := by decide +kernel
theorem dX7_faultOf_36 : decode cX7_faultOf 36 = .ok (.ifCond .eq 14, 3) := by decide +kernel
theorem dX7_faultOf_39 : decode cX7_faultOf 39 = .ok (.aload_n 0, 1) := by decide +kernel
theorem dX7_faultOf_40 : decode cX7_faultOf 40 = .ok (.invokevirtual 179, 3) := by decide +kernel
theorem dX7_faultOf_43 : decode cX7_faultOf 43 = .ok (.ifCond .eq 7, 3) := by decide +kernel
theorem dX7_faultOf_46 : decode cX7_faultOf 46 = .ok (.iconst 1, 1) := by decide +kernel
theorem dX7_faultOf_47 : decode cX7_faultOf 47 = .ok (.goto 4, 3) := by decide +kernel
theorem dX7_faultOf_50 : decode cX7_faultOf 50 = .ok (.iconst 0, 1) := by decide +kernel
theorem dX7_faultOf_51 : decode cX7_faultOf 51 = .ok (.istore_n 1, 1) := by decide +kernel
theorem dX7_faultOf_52 : decode cX7_faultOf 52 = .ok (.goto (-37), 3) := by decide +kernel
theorem dX7_faultOf_55 : decode cX7_faultOf 55 = .ok (.iload_n 1, 1) := by decide +kernel
theorem dX7_faultOf_56 : decode cX7_faultOf 56 = .ok (.ifCond .eq 7, 3) := by decide +kernel
theorem dX7_faultOf_59 : decode cX7_faultOf 59 = .ok (.iconst (-1), 1) := by decide +kernel
theorem dX7_faultOf_60 : decode cX7_faultOf 60 = .ok (.goto 7, 3) := by decide +kernel
theorem dX7_faultOf_63 : decode cX7_faultOf 63 = .ok (.aload_n 0, 1) := by decide +kernel
theorem dX7_faultOf_64 : decode cX7_faultOf 64 = .ok (.getfield 155, 3) := by decide +kernel
theorem dX7_faultOf_67 : decode cX7_faultOf 67 = .ok (.ireturn, 1) := by decide +kernel
theorem dX7_does_0 : decode cX7_does 0 = .ok (.iconst 4, 1) := by decide +kernel
theorem dX7_does_1 : decode cX7_does 1 = .ok (.iload_n 1, 1) := by decide +kernel
theorem dX7_does_2 : decode cX7_does 2 = .ok (.imul, 1) := by decide +kernel
theorem dX7_does_3 : decode cX7_does 3 = .ok (.istore_n 2, 1) := by decide +kernel
theorem dX7_does_4 : decode cX7_does 4 = .ok (.aload_n 0, 1) := by decide +kernel
theorem dX7_does_5 : decode cX7_does 5 = .ok (.getfield 32, 3) := by decide +kernel
theorem dX7_does_8 : decode cX7_does 8 = .ok (.iload_n 2, 1) := by decide +kernel
theorem dX7_does_9 : decode cX7_does 9 = .ok (.iaload, 1) := by decide +kernel
theorem dX7_does_10 : decode cX7_does 10 = .ok (.lookupswitch 139 #[(66, 71), (72, 105), (76, 76), (80, 118), (83, 50)], 50) := by decide +kernel
theorem dX7_does_60 : decode cX7_does 60 = .ok (.aload_n 0, 1) := by decide +kernel
theorem dX7_does_61 : decode cX7_does 61 = .ok (.aload_n 0, 1) := by decide +kernel
theorem dX7_does_62 : decode cX7_does 62 = .ok (.getfield 32, 3) := by decide +kernel
theorem dX7_does_65 : decode cX7_does 65 = .ok (.iload_n 2, 1) := by decide +kernel
theorem dX7_does_66 : decode cX7_does 66 = .ok (.iconst 1, 1) := by decide +kernel
theorem dX7_does_67 : decode cX7_does 67 = .ok (.iadd, 1) := by decide +kernel
theorem dX7_does_68 : decode cX7_does 68 = .ok (.iaload, 1) := by decide +kernel
theorem dX7_does_69 : decode cX7_does 69 = .ok (.aload_n 0, 1) := by decide +kernel
theorem dX7_does_70 : decode cX7_does 70 = .ok (.getfield 32, 3) := by decide +kernel
theorem dX7_does_73 : decode cX7_does 73 = .ok (.iload_n 2, 1) := by decide +kernel
theorem dX7_does_74 : decode cX7_does 74 = .ok (.iconst 2, 1) := by decide +kernel
theorem dX7_does_75 : decode cX7_does 75 = .ok (.iadd, 1) := by decide +kernel
theorem dX7_does_76 : decode cX7_does 76 = .ok (.iaload, 1) := by decide +kernel
theorem dX7_does_77 : decode cX7_does 77 = .ok (.invokevirtual 182, 3) := by decide +kernel
theorem dX7_does_80 : decode cX7_does 80 = .ok (.ireturn, 1) := by decide +kernel
theorem dX7_does_81 : decode cX7_does 81 = .ok (.aload_n 0, 1) := by decide +kernel
theorem dX7_does_82 : decode cX7_does 82 = .ok (.invokevirtual 106, 3) := by decide +kernel
theorem dX7_does_85 : decode cX7_does 85 = .ok (.ireturn, 1) := by decide +kernel
theorem dX7_does_86 : decode cX7_does 86 = .ok (.aload_n 0, 1) := by decide +kernel
theorem dX7_does_87 : decode cX7_does 87 = .ok (.aload_n 0, 1) := by decide +kernel
theorem dX7_does_88 : decode cX7_does 88 = .ok (.getfield 32, 3) := by decide +kernel
theorem dX7_does_91 : decode cX7_does 91 = .ok (.iload_n 2, 1) := by decide +kernel
theorem dX7_does_92 : decode cX7_does 92 = .ok (.iconst 1, 1) := by decide +kernel
theorem dX7_does_93 : decode cX7_does 93 = .ok (.iadd, 1) := by decide +kernel
theorem dX7_does_94 : decode cX7_does 94 = .ok (.iaload, 1) := by decide +kernel
theorem dX7_does_95 : decode cX7_does 95 = .ok (.aload_n 0, 1) := by decide +kernel
theorem dX7_does_96 : decode cX7_does 96 = .ok (.getfield 32, 3) := by decide +kernel
theorem dX7_does_99 : decode cX7_does 99 = .ok (.iload_n 2, 1) := by decide +kernel
theorem dX7_does_100 : decode cX7_does 100 = .ok (.iconst 2, 1) := by decide +kernel
theorem dX7_does_101 : decode cX7_does 101 = .ok (.iadd, 1) := by decide +kernel
theorem dX7_does_102 : decode cX7_does 102 = .ok (.iaload, 1) := by decide +kernel
theorem dX7_does_103 : decode cX7_does 103 = .ok (.aload_n 0, 1) := by decide +kernel
theorem dX7_does_104 : decode cX7_does 104 = .ok (.getfield 32, 3) := by decide +kernel
theorem dX7_does_107 : decode cX7_does 107 = .ok (.iload_n 2, 1) := by decide +kernel
theorem dX7_does_108 : decode cX7_does 108 = .ok (.iconst 3, 1) := by decide +kernel
theorem dX7_does_109 : decode cX7_does 109 = .ok (.iadd, 1) := by decide +kernel
theorem dX7_does_110 : decode cX7_does 110 = .ok (.iaload, 1) := by decide +kernel
theorem dX7_does_111 : decode cX7_does 111 = .ok (.invokevirtual 109, 3) := by decide +kernel
theorem dX7_does_114 : decode cX7_does 114 = .ok (.ireturn, 1) := by decide +kernel
theorem dX7_does_115 : decode cX7_does 115 = .ok (.aload_n 0, 1) := by decide +kernel
theorem dX7_does_116 : decode cX7_does 116 = .ok (.aload_n 0, 1) := by decide +kernel
theorem dX7_does_117 : decode cX7_does 117 = .ok (.getfield 32, 3) := by decide +kernel
theorem dX7_does_120 : decode cX7_does 120 = .ok (.iload_n 2, 1) := by decide +kernel
theorem dX7_does_121 : decode cX7_does 121 = .ok (.iconst 1, 1) := by decide +kernel
theorem dX7_does_122 : decode cX7_does 122 = .ok (.iadd, 1) := by decide +kernel
theorem dX7_does_123 : decode cX7_does 123 = .ok (.iaload, 1) := by decide +kernel
theorem dX7_does_124 : decode cX7_does 124 = .ok (.invokevirtual 113, 3) := by decide +kernel
theorem dX7_does_127 : decode cX7_does 127 = .ok (.ireturn, 1) := by decide +kernel
theorem dX7_does_128 : decode cX7_does 128 = .ok (.aload_n 0, 1) := by decide +kernel
theorem dX7_does_129 : decode cX7_does 129 = .ok (.aload_n 0, 1) := by decide +kernel
theorem dX7_does_130 : decode cX7_does 130 = .ok (.getfield 32, 3) := by decide +kernel
theorem dX7_does_133 : decode cX7_does 133 = .ok (.iload_n 2, 1) := by decide +kernel
theorem dX7_does_134 : decode cX7_does 134 = .ok (.iconst 1, 1) := by decide +kernel
theorem dX7_does_135 : decode cX7_does 135 = .ok (.iadd, 1) := by decide +kernel
theorem dX7_does_136 : decode cX7_does 136 = .ok (.iaload, 1) := by decide +kernel
theorem dX7_does_137 : decode cX7_does 137 = .ok (.aload_n 0, 1) := by decide +kernel
theorem dX7_does_138 : decode cX7_does 138 = .ok (.getfield 32, 3) := by decide +kernel
theorem dX7_does_141 : decode cX7_does 141 = .ok (.iload_n 2, 1) := by decide +kernel
theorem dX7_does_142 : decode cX7_does 142 = .ok (.iconst 2, 1) := by decide +kernel
theorem dX7_does_143 : decode cX7_does 143 = .ok (.iadd, 1) := by decide +kernel
theorem dX7_does_144 : decode cX7_does 144 = .ok (.iaload, 1) := by decide +kernel
theorem dX7_does_145 : decode cX7_does 145 = .ok (.invokevirtual 116, 3) := by decide +kernel
theorem dX7_does_148 : decode cX7_does 148 = .ok (.ireturn, 1) := by decide +kernel
theorem dX7_does_149 : decode cX7_does 149 = .ok (.aload_n 0, 1) := by decide +kernel
theorem dX7_does_150 : decode cX7_does 150 = .ok (.invokevirtual 119, 3) := by decide +kernel
theorem dX7_does_153 : decode cX7_does 153 = .ok (.ireturn, 1) := by decide +kernel
theorem dX7_put_0 : decode cX7_put 0 = .ok (.iconst 0, 1) := by decide +kernel
theorem dX7_put_1 : decode cX7_put 1 = .ok (.istore_n 3, 1) := by decide +kernel
theorem dX7_put_2 : decode cX7_put 2 = .ok (.lload_n 1, 1) := by decide +kernel
theorem dX7_put_3 : decode cX7_put 3 = .ok (.lstore 4, 2) := by decide +kernel
theorem dX7_put_5 : decode cX7_put 5 = .ok (.iload_n 3, 1) := by decide +kernel
theorem dX7_put_6 : decode cX7_put 6 = .ok (.bipush 8, 2) := by decide +kernel
theorem dX7_put_8 : decode cX7_put 8 = .ok (.if_icmp .ge 52, 3) := by decide +kernel
theorem dX7_put_11 : decode cX7_put 11 = .ok (.lload 4, 2) := by decide +kernel
theorem dX7_put_13 : decode cX7_put 13 = .ok (.lconst 0, 1) := by decide +kernel
theorem dX7_put_14 : decode cX7_put 14 = .ok (.lcmp, 1) := by decide +kernel
theorem dX7_put_15 : decode cX7_put 15 = .ok (.ifCond .eq 45, 3) := by decide +kernel
theorem dX7_put_18 : decode cX7_put 18 = .ok (.lload 4, 2) := by decide +kernel
theorem dX7_put_20 : decode cX7_put 20 = .ok (.ldc2_w 185, 3) := by decide +kernel
theorem dX7_put_23 : decode cX7_put 23 = .ok (.land, 1) := by decide +kernel
theorem dX7_put_24 : decode cX7_put 24 = .ok (.lstore 6, 2) := by decide +kernel
theorem dX7_put_26 : decode cX7_put 26 = .ok (.lload 6, 2) := by decide +kernel
theorem dX7_put_28 : decode cX7_put 28 = .ok (.ldc2_w 187, 3) := by decide +kernel
theorem dX7_put_31 : decode cX7_put 31 = .ok (.lcmp, 1) := by decide +kernel
theorem dX7_put_32 : decode cX7_put 32 = .ok (.ifCond .lt 12, 3) := by decide +kernel
theorem dX7_put_35 : decode cX7_put 35 = .ok (.lload 6, 2) := by decide +kernel
theorem dX7_put_37 : decode cX7_put 37 = .ok (.ldc2_w 189, 3) := by decide +kernel
theorem dX7_put_40 : decode cX7_put 40 = .ok (.lcmp, 1) := by decide +kernel
theorem dX7_put_41 : decode cX7_put 41 = .ok (.ifCond .le 6, 3) := by decide +kernel
theorem dX7_put_44 : decode cX7_put 44 = .ok (.bipush (-2), 2) := by decide +kernel
theorem dX7_put_46 : decode cX7_put 46 = .ok (.ireturn, 1) := by decide +kernel
theorem dX7_put_47 : decode cX7_put 47 = .ok (.lload 4, 2) := by decide +kernel
theorem dX7_put_49 : decode cX7_put 49 = .ok (.bipush 8, 2) := by decide +kernel
theorem dX7_put_51 : decode cX7_put 51 = .ok (.lushr, 1) := by decide +kernel
theorem dX7_put_52 : decode cX7_put 52 = .ok (.lstore 4, 2) := by decide +kernel
theorem dX7_put_54 : decode cX7_put 54 = .ok (.iinc 3 1, 3) := by decide +kernel
theorem dX7_put_57 : decode cX7_put 57 = .ok (.goto (-52), 3) := by decide +kernel
theorem dX7_put_60 : decode cX7_put 60 = .ok (.iload_n 3, 1) := by decide +kernel
theorem dX7_put_61 : decode cX7_put 61 = .ok (.ifCond .ne 6, 3) := by decide +kernel
theorem dX7_put_64 : decode cX7_put 64 = .ok (.bipush (-2), 2) := by decide +kernel
theorem dX7_put_66 : decode cX7_put 66 = .ok (.ireturn, 1) := by decide +kernel
theorem dX7_put_67 : decode cX7_put 67 = .ok (.aload_n 0, 1) := by decide +kernel
theorem dX7_put_68 : decode cX7_put 68 = .ok (.getfield 140, 3) := by decide +kernel
theorem dX7_put_71 : decode cX7_put 71 = .ok (.iload_n 3, 1) := by decide +kernel
theorem dX7_put_72 : decode cX7_put 72 = .ok (.iadd, 1) := by decide +kernel
theorem dX7_put_73 : decode cX7_put 73 = .ok (.bipush 80, 2) := by decide +kernel
theorem dX7_put_75 : decode cX7_put 75 = .ok (.if_icmp .le 6, 3) := by decide +kernel
theorem dX7_put_78 : decode cX7_put 78 = .ok (.bipush (-4), 2) := by decide +kernel
theorem dX7_put_80 : decode cX7_put 80 = .ok (.ireturn, 1) := by decide +kernel
theorem dX7_put_81 : decode cX7_put 81 = .ok (.iload_n 3, 1) := by decide +kernel
theorem dX7_put_82 : decode cX7_put 82 = .ok (.iconst 1, 1) := by decide +kernel
theorem dX7_put_83 : decode cX7_put 83 = .ok (.isub, 1) := by decide +kernel
theorem dX7_put_84 : decode cX7_put 84 = .ok (.istore 6, 2) := by decide +kernel
theorem dX7_put_86 : decode cX7_put 86 = .ok (.iload 6, 2) := by decide +kernel
theorem dX7_put_88 : decode cX7_put 88 = .ok (.ifCond .lt 41, 3) := by decide +kernel
theorem dX7_put_91 : decode cX7_put 91 = .ok (.aload_n 0, 1) := by decide +kernel
theorem dX7_put_92 : decode cX7_put 92 = .ok (.getfield 35, 3) := by decide +kernel
theorem dX7_put_95 : decode cX7_put 95 = .ok (.aload_n 0, 1) := by decide +kernel
theorem dX7_put_96 : decode cX7_put 96 = .ok (.getfield 140, 3) := by decide +kernel
theorem dX7_put_99 : decode cX7_put 99 = .ok (.lload_n 1, 1) := by decide +kernel
theorem dX7_put_100 : decode cX7_put 100 = .ok (.bipush 8, 2) := by decide +kernel
theorem dX7_put_102 : decode cX7_put 102 = .ok (.iload 6, 2) := by decide +kernel
theorem dX7_put_104 : decode cX7_put 104 = .ok (.imul, 1) := by decide +kernel
theorem dX7_put_105 : decode cX7_put 105 = .ok (.lushr, 1) := by decide +kernel
theorem dX7_put_106 : decode cX7_put 106 = .ok (.ldc2_w 185, 3) := by decide +kernel
theorem dX7_put_109 : decode cX7_put 109 = .ok (.land, 1) := by decide +kernel
theorem dX7_put_110 : decode cX7_put 110 = .ok (.l2i, 1) := by decide +kernel
theorem dX7_put_111 : decode cX7_put 111 = .ok (.i2c, 1) := by decide +kernel
theorem dX7_put_112 : decode cX7_put 112 = .ok (.castore, 1) := by decide +kernel
theorem dX7_put_113 : decode cX7_put 113 = .ok (.aload_n 0, 1) := by decide +kernel
theorem dX7_put_114 : decode cX7_put 114 = .ok (.dup, 1) := by decide +kernel
theorem dX7_put_115 : decode cX7_put 115 = .ok (.getfield 140, 3) := by decide +kernel
theorem dX7_put_118 : decode cX7_put 118 = .ok (.iconst 1, 1) := by decide +kernel
theorem dX7_put_119 : decode cX7_put 119 = .ok (.iadd, 1) := by decide +kernel
theorem dX7_put_120 : decode cX7_put 120 = .ok (.putfield 140, 3) := by decide +kernel
theorem dX7_put_123 : decode cX7_put 123 = .ok (.iinc 6 (-1), 3) := by decide +kernel
theorem dX7_put_126 : decode cX7_put 126 = .ok (.goto (-40), 3) := by decide +kernel
theorem dX7_put_129 : decode cX7_put 129 = .ok (.aload_n 0, 1) := by decide +kernel
theorem dX7_put_130 : decode cX7_put 130 = .ok (.getfield 140, 3) := by decide +kernel
theorem dX7_put_133 : decode cX7_put 133 = .ok (.ireturn, 1) := by decide +kernel
theorem dX7_wipe_0 : decode cX7_wipe 0 = .ok (.aload_n 0, 1) := by decide +kernel
theorem dX7_wipe_1 : decode cX7_wipe 1 = .ok (.getfield 140, 3) := by decide +kernel
theorem dX7_wipe_4 : decode cX7_wipe 4 = .ok (.istore_n 1, 1) := by decide +kernel
theorem dX7_wipe_5 : decode cX7_wipe 5 = .ok (.aload_n 0, 1) := by decide +kernel
theorem dX7_wipe_6 : decode cX7_wipe 6 = .ok (.iconst 0, 1) := by decide +kernel
theorem dX7_wipe_7 : decode cX7_wipe 7 = .ok (.putfield 140, 3) := by decide +kernel
theorem dX7_wipe_10 : decode cX7_wipe 10 = .ok (.iload_n 1, 1) := by decide +kernel
theorem dX7_wipe_11 : decode cX7_wipe 11 = .ok (.ireturn, 1) := by decide +kernel
theorem dX7_fault_0 : decode cX7_fault 0 = .ok (.aload_n 0, 1) := by decide +kernel
theorem dX7_fault_1 : decode cX7_fault 1 = .ok (.invokevirtual 191, 3) := by decide +kernel
theorem dX7_fault_4 : decode cX7_fault 4 = .ok (.istore_n 1, 1) := by decide +kernel
theorem dX7_fault_5 : decode cX7_fault 5 = .ok (.iload_n 1, 1) := by decide +kernel
theorem dX7_fault_6 : decode cX7_fault 6 = .ok (.ifCond .ge 8, 3) := by decide +kernel
theorem dX7_fault_9 : decode cX7_fault 9 = .ok (.bipush (-6), 2) := by decide +kernel
theorem dX7_fault_11 : decode cX7_fault 11 = .ok (.goto 4, 3) := by decide +kernel
theorem dX7_fault_14 : decode cX7_fault 14 = .ok (.iload_n 1, 1) := by decide +kernel
theorem dX7_fault_15 : decode cX7_fault 15 = .ok (.ireturn, 1) := by decide +kernel
theorem dX7_carryOut_0 : decode cX7_carryOut 0 = .ok (.aload_n 0, 1) := by decide +kernel
theorem dX7_carryOut_1 : decode cX7_carryOut 1 = .ok (.invokevirtual 191, 3) := by decide +kernel
theorem dX7_carryOut_4 : decode cX7_carryOut 4 = .ok (.ifCond .lt 6, 3) := by decide +kernel
theorem dX7_carryOut_7 : decode cX7_carryOut 7 = .ok (.bipush (-3), 2) := by decide +kernel
theorem dX7_carryOut_9 : decode cX7_carryOut 9 = .ok (.ireturn, 1) := by decide +kernel
theorem dX7_carryOut_10 : decode cX7_carryOut 10 = .ok (.aload_n 0, 1) := by decide +kernel
theorem dX7_carryOut_11 : decode cX7_carryOut 11 = .ok (.invokevirtual 100, 3) := by decide +kernel
theorem dX7_carryOut_14 : decode cX7_carryOut 14 = .ok (.iconst 0, 1) := by decide +kernel
theorem dX7_carryOut_15 : decode cX7_carryOut 15 = .ok (.istore_n 1, 1) := by decide +kernel
theorem dX7_carryOut_16 : decode cX7_carryOut 16 = .ok (.iconst 1, 1) := by decide +kernel
theorem dX7_carryOut_17 : decode cX7_carryOut 17 = .ok (.istore_n 2, 1) := by decide +kernel
theorem dX7_carryOut_18 : decode cX7_carryOut 18 = .ok (.iload_n 2, 1) := by decide +kernel
theorem dX7_carryOut_19 : decode cX7_carryOut 19 = .ok (.ifCond .eq 48, 3) := by decide +kernel
theorem dX7_carryOut_22 : decode cX7_carryOut 22 = .ok (.iload_n 1, 1) := by decide +kernel
theorem dX7_carryOut_23 : decode cX7_carryOut 23 = .ok (.aload_n 0, 1) := by decide +kernel
theorem dX7_carryOut_24 : decode cX7_carryOut 24 = .ok (.getfield 162, 3) := by decide +kernel
theorem dX7_carryOut_27 : decode cX7_carryOut 27 = .ok (.if_icmp .ge 40, 3) := by decide +kernel
theorem dX7_carryOut_30 : decode cX7_carryOut 30 = .ok (.aload_n 0, 1) := by decide +kernel
theorem dX7_carryOut_31 : decode cX7_carryOut 31 = .ok (.iload_n 1, 1) := by decide +kernel
theorem dX7_carryOut_32 : decode cX7_carryOut 32 = .ok (.invokevirtual 194, 3) := by decide +kernel
theorem dX7_carryOut_35 : decode cX7_carryOut 35 = .ok (.istore_n 3, 1) := by decide +kernel
theorem dX7_carryOut_36 : decode cX7_carryOut 36 = .ok (.iload_n 3, 1) := by decide +kernel
theorem dX7_carryOut_37 : decode cX7_carryOut 37 = .ok (.ifCond .ge 9, 3) := by decide +kernel
theorem dX7_carryOut_40 : decode cX7_carryOut 40 = .ok (.iload_n 3, 1) := by decide +kernel
theorem dX7_carryOut_41 : decode cX7_carryOut 41 = .ok (.bipush (-6), 2) := by decide +kernel
theorem dX7_carryOut_43 : decode cX7_carryOut 43 = .ok (.if_icmp .ne 7, 3) := by decide +kernel
theorem dX7_carryOut_46 : decode cX7_carryOut 46 = .ok (.iconst 1, 1) := by decide +kernel
theorem dX7_carryOut_47 : decode cX7_carryOut 47 = .ok (.goto 4, 3) := by decide +kernel
theorem dX7_carryOut_50 : decode cX7_carryOut 50 = .ok (.iconst 0, 1) := by decide +kernel
theorem dX7_carryOut_51 : decode cX7_carryOut 51 = .ok (.istore_n 2, 1) := by decide +kernel
theorem dX7_carryOut_52 : decode cX7_carryOut 52 = .ok (.iload_n 1, 1) := by decide +kernel
theorem dX7_carryOut_53 : decode cX7_carryOut 53 = .ok (.iload_n 2, 1) := by decide +kernel
theorem dX7_carryOut_54 : decode cX7_carryOut 54 = .ok (.ifCond .eq 7, 3) := by decide +kernel
theorem dX7_carryOut_57 : decode cX7_carryOut 57 = .ok (.iconst 1, 1) := by decide +kernel
theorem dX7_carryOut_58 : decode cX7_carryOut 58 = .ok (.goto 4, 3) := by decide +kernel
theorem dX7_carryOut_61 : decode cX7_carryOut 61 = .ok (.iconst 0, 1) := by decide +kernel
theorem dX7_carryOut_62 : decode cX7_carryOut 62 = .ok (.iadd, 1) := by decide +kernel
theorem dX7_carryOut_63 : decode cX7_carryOut 63 = .ok (.istore_n 1, 1) := by decide +kernel
theorem dX7_carryOut_64 : decode cX7_carryOut 64 = .ok (.goto (-46), 3) := by decide +kernel
theorem dX7_carryOut_67 : decode cX7_carryOut 67 = .ok (.aload_n 0, 1) := by decide +kernel
theorem dX7_carryOut_68 : decode cX7_carryOut 68 = .ok (.iconst 0, 1) := by decide +kernel
theorem dX7_carryOut_69 : decode cX7_carryOut 69 = .ok (.putfield 140, 3) := by decide +kernel
theorem dX7_carryOut_72 : decode cX7_carryOut 72 = .ok (.aload_n 0, 1) := by decide +kernel
theorem dX7_carryOut_73 : decode cX7_carryOut 73 = .ok (.iload_n 1, 1) := by decide +kernel
theorem dX7_carryOut_74 : decode cX7_carryOut 74 = .ok (.invokevirtual 103, 3) := by decide +kernel
theorem dX7_carryOut_77 : decode cX7_carryOut 77 = .ok (.ireturn, 1) := by decide +kernel
theorem dX7_undo_0 : decode cX7_undo 0 = .ok (.aload_n 0, 1) := by decide +kernel
theorem dX7_undo_1 : decode cX7_undo 1 = .ok (.getfield 43, 3) := by decide +kernel
theorem dX7_undo_4 : decode cX7_undo 4 = .ok (.ifCond .ne 6, 3) := by decide +kernel
theorem dX7_undo_7 : decode cX7_undo 7 = .ok (.bipush (-5), 2) := by decide +kernel
theorem dX7_undo_9 : decode cX7_undo 9 = .ok (.ireturn, 1) := by decide +kernel
theorem dX7_undo_10 : decode cX7_undo 10 = .ok (.aload_n 0, 1) := by decide +kernel
theorem dX7_undo_11 : decode cX7_undo 11 = .ok (.dup, 1) := by decide +kernel
theorem dX7_undo_12 : decode cX7_undo 12 = .ok (.getfield 43, 3) := by decide +kernel
theorem dX7_undo_15 : decode cX7_undo 15 = .ok (.iconst 1, 1) := by decide +kernel
theorem dX7_undo_16 : decode cX7_undo 16 = .ok (.isub, 1) := by decide +kernel
theorem dX7_undo_17 : decode cX7_undo 17 = .ok (.putfield 43, 3) := by decide +kernel
theorem dX7_undo_20 : decode cX7_undo 20 = .ok (.iconst 0, 1) := by decide +kernel
theorem dX7_undo_21 : decode cX7_undo 21 = .ok (.istore_n 1, 1) := by decide +kernel
theorem dX7_undo_22 : decode cX7_undo 22 = .ok (.iload_n 1, 1) := by decide +kernel
theorem dX7_undo_23 : decode cX7_undo 23 = .ok (.sipush 937, 3) := by decide +kernel
theorem dX7_undo_26 : decode cX7_undo 26 = .ok (.if_icmp .ge 30, 3) := by decide +kernel
theorem dX7_undo_29 : decode cX7_undo 29 = .ok (.aload_n 0, 1) := by decide +kernel
theorem dX7_undo_30 : decode cX7_undo 30 = .ok (.getfield 7, 3) := by decide +kernel
theorem dX7_undo_33 : decode cX7_undo 33 = .ok (.iload_n 1, 1) := by decide +kernel
theorem dX7_undo_34 : decode cX7_undo 34 = .ok (.aload_n 0, 1) := by decide +kernel
theorem dX7_undo_35 : decode cX7_undo 35 = .ok (.getfield 19, 3) := by decide +kernel
theorem dX7_undo_38 : decode cX7_undo 38 = .ok (.sipush 937, 3) := by decide +kernel
theorem dX7_undo_41 : decode cX7_undo 41 = .ok (.aload_n 0, 1) := by decide +kernel
theorem dX7_undo_42 : decode cX7_undo 42 = .ok (.getfield 43, 3) := by decide +kernel
theorem dX7_undo_45 : decode cX7_undo 45 = .ok (.imul, 1) := by decide +kernel
theorem dX7_undo_46 : decode cX7_undo 46 = .ok (.iload_n 1, 1) := by decide +kernel
theorem dX7_undo_47 : decode cX7_undo 47 = .ok (.iadd, 1) := by decide +kernel
theorem dX7_undo_48 : decode cX7_undo 48 = .ok (.iaload, 1) := by decide +kernel
theorem dX7_undo_49 : decode cX7_undo 49 = .ok (.iastore, 1) := by decide +kernel
theorem dX7_undo_50 : decode cX7_undo 50 = .ok (.iinc 1 1, 3) := by decide +kernel
theorem dX7_undo_53 : decode cX7_undo 53 = .ok (.goto (-31), 3) := by decide +kernel
theorem dX7_undo_56 : decode cX7_undo 56 = .ok (.aload_n 0, 1) := by decide +kernel
theorem dX7_undo_57 : decode cX7_undo 57 = .ok (.getfield 43, 3) := by decide +kernel
theorem dX7_undo_60 : decode cX7_undo 60 = .ok (.ireturn, 1) := by decide +kernel
theorem dX7_save_0 : decode cX7_save 0 = .ok (.iload_n 1, 1) := by decide +kernel
theorem dX7_save_1 : decode cX7_save 1 = .ok (.iconst 0, 1) := by decide +kernel
theorem dX7_save_2 : decode cX7_save 2 = .ok (.iconst 1, 1) := by decide +kernel
theorem dX7_save_3 : decode cX7_save 3 = .ok (.invokestatic 39, 3) := by decide +kernel
theorem dX7_save_6 : decode cX7_save 6 = .ok (.ifCond .ne 6, 3) := by decide +kernel
theorem dX7_save_9 : decode cX7_save 9 = .ok (.bipush (-2), 2) := by decide +kernel
theorem dX7_save_11 : decode cX7_save 11 = .ok (.ireturn, 1) := by decide +kernel
theorem dX7_save_12 : decode cX7_save 12 = .ok (.iconst 0, 1) := by decide +kernel
theorem dX7_save_13 : decode cX7_save 13 = .ok (.istore_n 2, 1) := by decide +kernel
theorem dX7_save_14 : decode cX7_save 14 = .ok (.iload_n 2, 1) := by decide +kernel
theorem dX7_save_15 : decode cX7_save 15 = .ok (.sipush 937, 3) := by decide +kernel
theorem dX7_save_18 : decode cX7_save 18 = .ok (.if_icmp .ge 27, 3) := by decide +kernel
theorem dX7_save_21 : decode cX7_save 21 = .ok (.aload_n 0, 1) := by decide +kernel
theorem dX7_save_22 : decode cX7_save 22 = .ok (.getfield 22, 3) := by decide +kernel
theorem dX7_save_25 : decode cX7_save 25 = .ok (.sipush 937, 3) := by decide +kernel
theorem dX7_save_28 : decode cX7_save 28 = .ok (.iload_n 1, 1) := by decide +kernel
theorem dX7_save_29 : decode cX7_save 29 = .ok (.imul, 1) := by decide +kernel
theorem dX7_save_30 : decode cX7_save 30 = .ok (.iload_n 2, 1) := by decide +kernel
theorem dX7_save_31 : decode cX7_save 31 = .ok (.iadd, 1) := by decide +kernel
theorem dX7_save_32 : decode cX7_save 32 = .ok (.aload_n 0, 1) := by decide +kernel
theorem dX7_save_33 : decode cX7_save 33 = .ok (.getfield 7, 3) := by decide +kernel
theorem dX7_save_36 : decode cX7_save 36 = .ok (.iload_n 2, 1) := by decide +kernel
theorem dX7_save_37 : decode cX7_save 37 = .ok (.iaload, 1) := by decide +kernel
theorem dX7_save_38 : decode cX7_save 38 = .ok (.iastore, 1) := by decide +kernel
theorem dX7_save_39 : decode cX7_save 39 = .ok (.iinc 2 1, 3) := by decide +kernel
theorem dX7_save_42 : decode cX7_save 42 = .ok (.goto (-28), 3) := by decide +kernel
theorem dX7_save_45 : decode cX7_save 45 = .ok (.aload_n 0, 1) := by decide +kernel
theorem dX7_save_46 : decode cX7_save 46 = .ok (.getfield 25, 3) := by decide +kernel
theorem dX7_save_49 : decode cX7_save 49 = .ok (.iload_n 1, 1) := by decide +kernel
theorem dX7_save_50 : decode cX7_save 50 = .ok (.iconst 1, 1) := by decide +kernel
theorem dX7_save_51 : decode cX7_save 51 = .ok (.bastore, 1) := by decide +kernel
theorem dX7_save_52 : decode cX7_save 52 = .ok (.aload_n 0, 1) := by decide +kernel
theorem dX7_save_53 : decode cX7_save 53 = .ok (.getfield 7, 3) := by decide +kernel
theorem dX7_save_56 : decode cX7_save 56 = .ok (.iconst 5, 1) := by decide +kernel
theorem dX7_save_57 : decode cX7_save 57 = .ok (.iaload, 1) := by decide +kernel
theorem dX7_save_58 : decode cX7_save 58 = .ok (.ireturn, 1) := by decide +kernel
theorem dX7_restore_0 : decode cX7_restore 0 = .ok (.iload_n 1, 1) := by decide +kernel
theorem dX7_restore_1 : decode cX7_restore 1 = .ok (.iconst 0, 1) := by decide +kernel
theorem dX7_restore_2 : decode cX7_restore 2 = .ok (.iconst 1, 1) := by decide +kernel
theorem dX7_restore_3 : decode cX7_restore 3 = .ok (.invokestatic 39, 3) := by decide +kernel
theorem dX7_restore_6 : decode cX7_restore 6 = .ok (.ifCond .ne 6, 3) := by decide +kernel
theorem dX7_restore_9 : decode cX7_restore 9 = .ok (.bipush (-2), 2) := by decide +kernel
theorem dX7_restore_11 : decode cX7_restore 11 = .ok (.ireturn, 1) := by decide +kernel
theorem dX7_restore_12 : decode cX7_restore 12 = .ok (.aload_n 0, 1) := by decide +kernel
theorem dX7_restore_13 : decode cX7_restore 13 = .ok (.getfield 25, 3) := by decide +kernel
theorem dX7_restore_16 : decode cX7_restore 16 = .ok (.iload_n 1, 1) := by decide +kernel
theorem dX7_restore_17 : decode cX7_restore 17 = .ok (.baload, 1) := by decide +kernel
theorem dX7_restore_18 : decode cX7_restore 18 = .ok (.ifCond .ne 6, 3) := by decide +kernel
theorem dX7_restore_21 : decode cX7_restore 21 = .ok (.bipush (-5), 2) := by decide +kernel
theorem dX7_restore_23 : decode cX7_restore 23 = .ok (.ireturn, 1) := by decide +kernel
theorem dX7_restore_24 : decode cX7_restore 24 = .ok (.aload_n 0, 1) := by decide +kernel
theorem dX7_restore_25 : decode cX7_restore 25 = .ok (.invokevirtual 100, 3) := by decide +kernel
theorem dX7_restore_28 : decode cX7_restore 28 = .ok (.iconst 0, 1) := by decide +kernel
theorem dX7_restore_29 : decode cX7_restore 29 = .ok (.istore_n 2, 1) := by decide +kernel
theorem dX7_restore_30 : decode cX7_restore 30 = .ok (.iload_n 2, 1) := by decide +kernel
theorem dX7_restore_31 : decode cX7_restore 31 = .ok (.sipush 937, 3) := by decide +kernel
theorem dX7_restore_34 : decode cX7_restore 34 = .ok (.if_icmp .ge 27, 3) := by decide +kernel
theorem dX7_restore_37 : decode cX7_restore 37 = .ok (.aload_n 0, 1) := by decide +kernel
theorem dX7_restore_38 : decode cX7_restore 38 = .ok (.getfield 7, 3) := by decide +kernel
theorem dX7_restore_41 : decode cX7_restore 41 = .ok (.iload_n 2, 1) := by decide +kernel
theorem dX7_restore_42 : decode cX7_restore 42 = .ok (.aload_n 0, 1) := by decide +kernel
theorem dX7_restore_43 : decode cX7_restore 43 = .ok (.getfield 22, 3) := by decide +kernel
theorem dX7_restore_46 : decode cX7_restore 46 = .ok (.sipush 937, 3) := by decide +kernel
theorem dX7_restore_49 : decode cX7_restore 49 = .ok (.iload_n 1, 1) := by decide +kernel
theorem dX7_restore_50 : decode cX7_restore 50 = .ok (.imul, 1) := by decide +kernel
theorem dX7_restore_51 : decode cX7_restore 51 = .ok (.iload_n 2, 1) := by decide +kernel
theorem dX7_restore_52 : decode cX7_restore 52 = .ok (.iadd, 1) := by decide +kernel
theorem dX7_restore_53 : decode cX7_restore 53 = .ok (.iaload, 1) := by decide +kernel
theorem dX7_restore_54 : decode cX7_restore 54 = .ok (.iastore, 1) := by decide +kernel
theorem dX7_restore_55 : decode cX7_restore 55 = .ok (.iinc 2 1, 3) := by decide +kernel
theorem dX7_restore_58 : decode cX7_restore 58 = .ok (.goto (-28), 3) := by decide +kernel
theorem dX7_restore_61 : decode cX7_restore 61 = .ok (.aload_n 0, 1) := by decide +kernel
theorem dX7_restore_62 : decode cX7_restore 62 = .ok (.aload_n 0, 1) := by decide +kernel
theorem dX7_restore_63 : decode cX7_restore 63 = .ok (.getfield 7, 3) := by decide +kernel
theorem dX7_restore_66 : decode cX7_restore 66 = .ok (.iconst 5, 1) := by decide +kernel
theorem dX7_restore_67 : decode cX7_restore 67 = .ok (.iaload, 1) := by decide +kernel
theorem dX7_restore_68 : decode cX7_restore 68 = .ok (.invokevirtual 103, 3) := by decide +kernel
theorem dX7_restore_71 : decode cX7_restore 71 = .ok (.ireturn, 1) := by decide +kernel
theorem dJ6_bitCount_0f7a4_0 : decode cJ6_bitCount_0f7a4 0 = .ok (.iload_n 0, 1) := by decide +kernel
theorem dJ6_bitCount_0f7a4_1 : decode cJ6_bitCount_0f7a4 1 = .ok (.iload_n 0, 1) := by decide +kernel
theorem dJ6_bitCount_0f7a4_2 : decode cJ6_bitCount_0f7a4 2 = .ok (.iconst 1, 1) := by decide +kernel
theorem dJ6_bitCount_0f7a4_3 : decode cJ6_bitCount_0f7a4 3 = .ok (.iushr, 1) := by decide +kernel
theorem dJ6_bitCount_0f7a4_4 : decode cJ6_bitCount_0f7a4 4 = .ok (.ldc_w 265, 3) := by decide +kernel
theorem dJ6_bitCount_0f7a4_7 : decode cJ6_bitCount_0f7a4 7 = .ok (.iand, 1) := by decide +kernel
theorem dJ6_bitCount_0f7a4_8 : decode cJ6_bitCount_0f7a4 8 = .ok (.isub, 1) := by decide +kernel
theorem dJ6_bitCount_0f7a4_9 : decode cJ6_bitCount_0f7a4 9 = .ok (.istore_n 0, 1) := by decide +kernel
theorem dJ6_bitCount_0f7a4_10 : decode cJ6_bitCount_0f7a4 10 = .ok (.iload_n 0, 1) := by decide +kernel
theorem dJ6_bitCount_0f7a4_11 : decode cJ6_bitCount_0f7a4 11 = .ok (.ldc_w 266, 3) := by decide +kernel
theorem dJ6_bitCount_0f7a4_14 : decode cJ6_bitCount_0f7a4 14 = .ok (.iand, 1) := by decide +kernel
theorem dJ6_bitCount_0f7a4_15 : decode cJ6_bitCount_0f7a4 15 = .ok (.iload_n 0, 1) := by decide +kernel
theorem dJ6_bitCount_0f7a4_16 : decode cJ6_bitCount_0f7a4 16 = .ok (.iconst 2, 1) := by decide +kernel
theorem dJ6_bitCount_0f7a4_17 : decode cJ6_bitCount_0f7a4 17 = .ok (.iushr, 1) := by decide +kernel
theorem dJ6_bitCount_0f7a4_18 : decode cJ6_bitCount_0f7a4 18 = .ok (.ldc_w 266, 3) := by decide +kernel
theorem dJ6_bitCount_0f7a4_21 : decode cJ6_bitCount_0f7a4 21 = .ok (.iand, 1) := by decide +kernel
theorem dJ6_bitCount_0f7a4_22 : decode cJ6_bitCount_0f7a4 22 = .ok (.iadd, 1) := by decide +kernel
theorem dJ6_bitCount_0f7a4_23 : decode cJ6_bitCount_0f7a4 23 = .ok (.istore_n 0, 1) := by decide +kernel
theorem dJ6_bitCount_0f7a4_24 : decode cJ6_bitCount_0f7a4 24 = .ok (.iload_n 0, 1) := by decide +kernel
theorem dJ6_bitCount_0f7a4_25 : decode cJ6_bitCount_0f7a4 25 = .ok (.iload_n 0, 1) := by decide +kernel
theorem dJ6_bitCount_0f7a4_26 : decode cJ6_bitCount_0f7a4 26 = .ok (.iconst 4, 1) := by decide +kernel
theorem dJ6_bitCount_0f7a4_27 : decode cJ6_bitCount_0f7a4 27 = .ok (.iushr, 1) := by decide +kernel
theorem dJ6_bitCount_0f7a4_28 : decode cJ6_bitCount_0f7a4 28 = .ok (.iadd, 1) := by decide +kernel
theorem dJ6_bitCount_0f7a4_29 : decode cJ6_bitCount_0f7a4 29 = .ok (.ldc_w 267, 3) := by decide +kernel
theorem dJ6_bitCount_0f7a4_32 : decode cJ6_bitCount_0f7a4 32 = .ok (.iand, 1) := by decide +kernel
theorem dJ6_bitCount_0f7a4_33 : decode cJ6_bitCount_0f7a4 33 = .ok (.istore_n 0, 1) := by decide +kernel
theorem dJ6_bitCount_0f7a4_34 : decode cJ6_bitCount_0f7a4 34 = .ok (.iload_n 0, 1) := by decide +kernel
theorem dJ6_bitCount_0f7a4_35 : decode cJ6_bitCount_0f7a4 35 = .ok (.iload_n 0, 1) := by decide +kernel
theorem dJ6_bitCount_0f7a4_36 : decode cJ6_bitCount_0f7a4 36 = .ok (.bipush 8, 2) := by decide +kernel
theorem dJ6_bitCount_0f7a4_38 : decode cJ6_bitCount_0f7a4 38 = .ok (.iushr, 1) := by decide +kernel
theorem dJ6_bitCount_0f7a4_39 : decode cJ6_bitCount_0f7a4 39 = .ok (.iadd, 1) := by decide +kernel
theorem dJ6_bitCount_0f7a4_40 : decode cJ6_bitCount_0f7a4 40 = .ok (.istore_n 0, 1) := by decide +kernel
theorem dJ6_bitCount_0f7a4_41 : decode cJ6_bitCount_0f7a4 41 = .ok (.iload_n 0, 1) := by decide +kernel
theorem dJ6_bitCount_0f7a4_42 : decode cJ6_bitCount_0f7a4 42 = .ok (.iload_n 0, 1) := by decide +kernel
theorem dJ6_bitCount_0f7a4_43 : decode cJ6_bitCount_0f7a4 43 = .ok (.bipush 16, 2) := by decide +kernel
theorem dJ6_bitCount_0f7a4_45 : decode cJ6_bitCount_0f7a4 45 = .ok (.iushr, 1) := by decide +kernel
theorem dJ6_bitCount_0f7a4_46 : decode cJ6_bitCount_0f7a4 46 = .ok (.iadd, 1) := by decide +kernel
theorem dJ6_bitCount_0f7a4_47 : decode cJ6_bitCount_0f7a4 47 = .ok (.istore_n 0, 1) := by decide +kernel
theorem dJ6_bitCount_0f7a4_48 : decode cJ6_bitCount_0f7a4 48 = .ok (.iload_n 0, 1) := by decide +kernel
theorem dJ6_bitCount_0f7a4_49 : decode cJ6_bitCount_0f7a4 49 = .ok (.bipush 63, 2) := by decide +kernel
theorem dJ6_bitCount_0f7a4_51 : decode cJ6_bitCount_0f7a4 51 = .ok (.iand, 1) := by decide +kernel
theorem dJ6_bitCount_0f7a4_52 : decode cJ6_bitCount_0f7a4 52 = .ok (.ireturn, 1) := by decide +kernel
theorem dJ9_max_7cf53_0 : decode cJ9_max_7cf53 0 = .ok (.iload_n 0, 1) := by decide +kernel
theorem dJ9_max_7cf53_1 : decode cJ9_max_7cf53 1 = .ok (.iload_n 1, 1) := by decide +kernel
theorem dJ9_max_7cf53_2 : decode cJ9_max_7cf53 2 = .ok (.if_icmp .lt 7, 3) := by decide +kernel
theorem dJ9_max_7cf53_5 : decode cJ9_max_7cf53 5 = .ok (.iload_n 0, 1) := by decide +kernel
theorem dJ9_max_7cf53_6 : decode cJ9_max_7cf53 6 = .ok (.goto 4, 3) := by decide +kernel
theorem dJ9_max_7cf53_9 : decode cJ9_max_7cf53 9 = .ok (.iload_n 1, 1) := by decide +kernel
theorem dJ9_max_7cf53_10 : decode cJ9_max_7cf53 10 = .ok (.ireturn, 1) := by decide +kernel
theorem dJ9_min_7cf53_0 : decode cJ9_min_7cf53 0 = .ok (.iload_n 0, 1) := by decide +kernel
theorem dJ9_min_7cf53_1 : decode cJ9_min_7cf53 1 = .ok (.iload_n 1, 1) := by decide +kernel
theorem dJ9_min_7cf53_2 : decode cJ9_min_7cf53 2 = .ok (.if_icmp .gt 7, 3) := by decide +kernel
theorem dJ9_min_7cf53_5 : decode cJ9_min_7cf53 5 = .ok (.iload_n 0, 1) := by decide +kernel
theorem dJ9_min_7cf53_6 : decode cJ9_min_7cf53 6 = .ok (.goto 4, 3) := by decide +kernel
theorem dJ9_min_7cf53_9 : decode cJ9_min_7cf53 9 = .ok (.iload_n 1, 1) := by decide +kernel
theorem dJ9_min_7cf53_10 : decode cJ9_min_7cf53 10 = .ok (.ireturn, 1) := by decide +kernel
theorem dL_law_0 : decode cL_law 0 = .ok (.new 7, 3) := by decide +kernel
theorem dL_law_3 : decode cL_law 3 = .ok (.dup, 1) := by decide +kernel
theorem dL_law_4 : decode cL_law 4 = .ok (.invokespecial 9, 3) := by decide +kernel
theorem dL_law_7 : decode cL_law 7 = .ok (.astore_n 1, 1) := by decide +kernel
theorem dL_law_8 : decode cL_law 8 = .ok (.new 10, 3) := by decide +kernel
theorem dL_law_11 : decode cL_law 11 = .ok (.dup, 1) := by decide +kernel
theorem dL_law_12 : decode cL_law 12 = .ok (.invokespecial 12, 3) := by decide +kernel
theorem dL_law_15 : decode cL_law 15 = .ok (.astore_n 2, 1) := by decide +kernel
theorem dL_law_16 : decode cL_law 16 = .ok (.iconst 0, 1) := by decide +kernel
theorem dL_law_17 : decode cL_law 17 = .ok (.istore_n 3, 1) := by decide +kernel
theorem dL_law_18 : decode cL_law 18 = .ok (.iload_n 3, 1) := by decide +kernel
theorem dL_law_19 : decode cL_law 19 = .ok (.aload_n 0, 1) := by decide +kernel
theorem dL_law_20 : decode cL_law 20 = .ok (.arraylength, 1) := by decide +kernel
theorem dL_law_21 : decode cL_law 21 = .ok (.iconst 4, 1) := by decide +kernel
theorem dL_law_22 : decode cL_law 22 = .ok (.isub, 1) := by decide +kernel
theorem dL_law_23 : decode cL_law 23 = .ok (.if_icmp .gt 893, 3) := by decide +kernel
theorem dL_law_26 : decode cL_law 26 = .ok (.aload_n 0, 1) := by decide +kernel
theorem dL_law_27 : decode cL_law 27 = .ok (.iload_n 3, 1) := by decide +kernel
theorem dL_law_28 : decode cL_law 28 = .ok (.iaload, 1) := by decide +kernel
theorem dL_law_29 : decode cL_law 29 = .ok (.bipush 31, 2) := by decide +kernel
theorem dL_law_31 : decode cL_law 31 = .ok (.iand, 1) := by decide +kernel
theorem dL_law_32 : decode cL_law 32 = .ok (.tableswitch 878 0 25 #[120, 153, 166, 209, 232, 265, 278, 311, 344, 377, 420, 463, 496, 539, 572, 605, 628, 661, 694, 727, 780, 793, 806, 819, 832, 855], 120) := by decide +kernel
theorem dL_law_152 : decode cL_law 152 = .ok (.aload_n 1, 1) := by decide +kernel
theorem dL_law_153 : decode cL_law 153 = .ok (.aload_n 0, 1) := by decide +kernel
theorem dL_law_154 : decode cL_law 154 = .ok (.iload_n 3, 1) := by decide +kernel
theorem dL_law_155 : decode cL_law 155 = .ok (.iconst 1, 1) := by decide +kernel
theorem dL_law_156 : decode cL_law 156 = .ok (.iadd, 1) := by decide +kernel
theorem dL_law_157 : decode cL_law 157 = .ok (.iaload, 1) := by decide +kernel
theorem dL_law_158 : decode cL_law 158 = .ok (.aload_n 0, 1) := by decide +kernel
theorem dL_law_159 : decode cL_law 159 = .ok (.iload_n 3, 1) := by decide +kernel
theorem dL_law_160 : decode cL_law 160 = .ok (.iconst 2, 1) := by decide +kernel
theorem dL_law_161 : decode cL_law 161 = .ok (.iadd, 1) := by decide +kernel
theorem dL_law_162 : decode cL_law 162 = .ok (.iaload, 1) := by decide +kernel
theorem dL_law_163 : decode cL_law 163 = .ok (.invokevirtual 13, 3) := by decide +kernel
theorem dL_law_166 : decode cL_law 166 = .ok (.aload_n 2, 1) := by decide +kernel
theorem dL_law_167 : decode cL_law 167 = .ok (.aload_n 0, 1) := by decide +kernel
theorem dL_law_168 : decode cL_law 168 = .ok (.iload_n 3, 1) := by decide +kernel
theorem dL_law_169 : decode cL_law 169 = .ok (.iconst 1, 1) := by decide +kernel
theorem dL_law_170 : decode cL_law 170 = .ok (.iadd, 1) := by decide +kernel
theorem dL_law_171 : decode cL_law 171 = .ok (.iaload, 1) := by decide +kernel
theorem dL_law_172 : decode cL_law 172 = .ok (.aload_n 0, 1) := by decide +kernel
theorem dL_law_173 : decode cL_law 173 = .ok (.iload_n 3, 1) := by decide +kernel
theorem dL_law_174 : decode cL_law 174 = .ok (.iconst 2, 1) := by decide +kernel
theorem dL_law_175 : decode cL_law 175 = .ok (.iadd, 1) := by decide +kernel
theorem dL_law_176 : decode cL_law 176 = .ok (.iaload, 1) := by decide +kernel
theorem dL_law_177 : decode cL_law 177 = .ok (.invokevirtual 17, 3) := by decide +kernel
theorem dL_law_180 : decode cL_law 180 = .ok (.if_icmp .eq 730, 3) := by decide +kernel
theorem dL_law_183 : decode cL_law 183 = .ok (.iconst 0, 1) := by decide +kernel
theorem dL_law_184 : decode cL_law 184 = .ok (.ireturn, 1) := by decide +kernel
theorem dL_law_185 : decode cL_law 185 = .ok (.aload_n 1, 1) := by decide +kernel
theorem dL_law_186 : decode cL_law 186 = .ok (.invokevirtual 18, 3) := by decide +kernel
theorem dL_law_189 : decode cL_law 189 = .ok (.aload_n 2, 1) := by decide +kernel
theorem dL_law_190 : decode cL_law 190 = .ok (.invokevirtual 22, 3) := by decide +kernel
theorem dL_law_193 : decode cL_law 193 = .ok (.if_icmp .eq 717, 3) := by decide +kernel
theorem dL_law_196 : decode cL_law 196 = .ok (.iconst 0, 1) := by decide +kernel
theorem dL_law_197 : decode cL_law 197 = .ok (.ireturn, 1) := by decide +kernel
theorem dL_law_198 : decode cL_law 198 = .ok (.aload_n 1, 1) := by decide +kernel
theorem dL_law_199 : decode cL_law 199 = .ok (.aload_n 0, 1) := by decide +kernel
theorem dL_law_200 : decode cL_law 200 = .ok (.iload_n 3, 1) := by decide +kernel
theorem dL_law_201 : decode cL_law 201 = .ok (.iconst 1, 1) := by decide +kernel
theorem dL_law_202 : decode cL_law 202 = .ok (.iadd, 1) := by decide +kernel
theorem dL_law_203 : decode cL_law 203 = .ok (.iaload, 1) := by decide +kernel
theorem dL_law_204 : decode cL_law 204 = .ok (.aload_n 0, 1) := by decide +kernel
theorem dL_law_205 : decode cL_law 205 = .ok (.iload_n 3, 1) := by decide +kernel
theorem dL_law_206 : decode cL_law 206 = .ok (.iconst 2, 1) := by decide +kernel
theorem dL_law_207 : decode cL_law 207 = .ok (.iadd, 1) := by decide +kernel
theorem dL_law_208 : decode cL_law 208 = .ok (.iaload, 1) := by decide +kernel
theorem dL_law_209 : decode cL_law 209 = .ok (.aload_n 0, 1) := by decide +kernel
theorem dL_law_210 : decode cL_law 210 = .ok (.iload_n 3, 1) := by decide +kernel
theorem dL_law_211 : decode cL_law 211 = .ok (.iconst 3, 1) := by decide +kernel
theorem dL_law_212 : decode cL_law 212 = .ok (.iadd, 1) := by decide +kernel
theorem dL_law_213 : decode cL_law 213 = .ok (.iaload, 1) := by decide +kernel
theorem dL_law_214 : decode cL_law 214 = .ok (.invokevirtual 23, 3) := by decide +kernel
theorem dL_law_217 : decode cL_law 217 = .ok (.aload_n 2, 1) := by decide +kernel
theorem dL_law_218 : decode cL_law 218 = .ok (.aload_n 0, 1) := by decide +kernel
theorem dL_law_219 : decode cL_law 219 = .ok (.iload_n 3, 1) := by decide +kernel
theorem dL_law_220 : decode cL_law 220 = .ok (.iconst 1, 1) := by decide +kernel
theorem dL_law_221 : decode cL_law 221 = .ok (.iadd, 1) := by decide +kernel
theorem dL_law_222 : decode cL_law 222 = .ok (.iaload, 1) := by decide +kernel
theorem dL_law_223 : decode cL_law 223 = .ok (.aload_n 0, 1) := by decide +kernel
theorem dL_law_224 : decode cL_law 224 = .ok (.iload_n 3, 1) := by decide +kernel
theorem dL_law_225 : decode cL_law 225 = .ok (.iconst 2, 1) := by decide +kernel
theorem dL_law_226 : decode cL_law 226 = .ok (.iadd, 1) := by decide +kernel
theorem dL_law_227 : decode cL_law 227 = .ok (.iaload, 1) := by decide +kernel
theorem dL_law_228 : decode cL_law 228 = .ok (.aload_n 0, 1) := by decide +kernel
theorem dL_law_229 : decode cL_law 229 = .ok (.iload_n 3, 1) := by decide +kernel
theorem dL_law_230 : decode cL_law 230 = .ok (.iconst 3, 1) := by decide +kernel
theorem dL_law_231 : decode cL_law 231 = .ok (.iadd, 1) := by decide +kernel
theorem dL_law_232 : decode cL_law 232 = .ok (.iaload, 1) := by decide +kernel
theorem dL_law_233 : decode cL_law 233 = .ok (.invokevirtual 27, 3) := by decide +kernel
theorem dL_law_236 : decode cL_law 236 = .ok (.if_icmp .eq 674, 3) := by decide +kernel
theorem dL_law_239 : decode cL_law 239 = .ok (.iconst 0, 1) := by decide +kernel
theorem dL_law_240 : decode cL_law 240 = .ok (.ireturn, 1) := by decide +kernel
theorem dL_law_241 : decode cL_law 241 = .ok (.aload_n 1, 1) := by decide +kernel
theorem dL_law_242 : decode cL_law 242 = .ok (.aload_n 0, 1) := by decide +kernel
theorem dL_law_243 : decode cL_law 243 = .ok (.iload_n 3, 1) := by decide +kernel
theorem dL_law_244 : decode cL_law 244 = .ok (.iconst 1, 1) := by decide +kernel
theorem dL_law_245 : decode cL_law 245 = .ok (.iadd, 1) := by decide +kernel
theorem dL_law_246 : decode cL_law 246 = .ok (.iaload, 1) := by decide +kernel
theorem dL_law_247 : decode cL_law 247 = .ok (.invokevirtual 28, 3) := by decide +kernel
theorem dL_law_250 : decode cL_law 250 = .ok (.aload_n 2, 1) := by decide +kernel
theorem dL_law_251 : decode cL_law 251 = .ok (.aload_n 0, 1) := by decide +kernel
theorem dL_law_252 : decode cL_law 252 = .ok (.iload_n 3, 1) := by decide +kernel
theorem dL_law_253 : decode cL_law 253 = .ok (.iconst 1, 1) := by decide +kernel
theorem dL_law_254 : decode cL_law 254 = .ok (.iadd, 1) := by decide +kernel
theorem dL_law_255 : decode cL_law 255 = .ok (.iaload, 1) := by decide +kernel
theorem dL_law_256 : decode cL_law 256 = .ok (.invokevirtual 32, 3) := by decide +kernel
theorem dL_law_259 : decode cL_law 259 = .ok (.if_icmp .eq 651, 3) := by decide +kernel
theorem dL_law_262 : decode cL_law 262 = .ok (.iconst 0, 1) := by decide +kernel
theorem dL_law_263 : decode cL_law 263 = .ok (.ireturn, 1) := by decide +kernel
theorem dL_law_264 : decode cL_law 264 = .ok (.aload_n 1, 1) := by decide +kernel
theorem dL_law_265 : decode cL_law 265 = .ok (.aload_n 0, 1) := by decide +kernel
theorem dL_law_266 : decode cL_law 266 = .ok (.iload_n 3, 1) := by decide +kernel
theorem dL_law_267 : decode cL_law 267 = .ok (.iconst 1, 1) := by decide +kernel
theorem dL_law_268 : decode cL_law 268 = .ok (.iadd, 1) := by decide +kernel
theorem dL_law_269 : decode cL_law 269 = .ok (.iaload, 1) := by decide +kernel
theorem dL_law_270 : decode cL_law 270 = .ok (.aload_n 0, 1) := by decide +kernel
theorem dL_law_271 : decode cL_law 271 = .ok (.iload_n 3, 1) := by decide +kernel
theorem dL_law_272 : decode cL_law 272 = .ok (.iconst 2, 1) := by decide +kernel
theorem dL_law_273 : decode cL_law 273 = .ok (.iadd, 1) := by decide +kernel
theorem dL_law_274 : decode cL_law 274 = .ok (.iaload, 1) := by decide +kernel
theorem dL_law_275 : decode cL_law 275 = .ok (.invokevirtual 33, 3) := by decide +kernel
theorem dL_law_278 : decode cL_law 278 = .ok (.aload_n 2, 1) := by decide +kernel
theorem dL_law_279 : decode cL_law 279 = .ok (.aload_n 0, 1) := by decide +kernel
theorem dL_law_280 : decode cL_law 280 = .ok (.iload_n 3, 1) := by decide +kernel
theorem dL_law_281 : decode cL_law 281 = .ok (.iconst 1, 1) := by decide +kernel
theorem dL_law_282 : decode cL_law 282 = .ok (.iadd, 1) := by decide +kernel
theorem dL_law_283 : decode cL_law 283 = .ok (.iaload, 1) := by decide +kernel
theorem dL_law_284 : decode cL_law 284 = .ok (.aload_n 0, 1) := by decide +kernel
theorem dL_law_285 : decode cL_law 285 = .ok (.iload_n 3, 1) := by decide +kernel
theorem dL_law_286 : decode cL_law 286 = .ok (.iconst 2, 1) := by decide +kernel
theorem dL_law_287 : decode cL_law 287 = .ok (.iadd, 1) := by decide +kernel
theorem dL_law_288 : decode cL_law 288 = .ok (.iaload, 1) := by decide +kernel
theorem dL_law_289 : decode cL_law 289 = .ok (.invokevirtual 36, 3) := by decide +kernel
theorem dL_law_292 : decode cL_law 292 = .ok (.if_icmp .eq 618, 3) := by decide +kernel
theorem dL_law_295 : decode cL_law 295 = .ok (.iconst 0, 1) := by decide +kernel
theorem dL_law_296 : decode cL_law 296 = .ok (.ireturn, 1) := by decide +kernel
theorem dL_law_297 : decode cL_law 297 = .ok (.aload_n 1, 1) := by decide +kernel
theorem dL_law_298 : decode cL_law 298 = .ok (.invokevirtual 37, 3) := by decide +kernel
theorem dL_law_301 : decode cL_law 301 = .ok (.aload_n 2, 1) := by decide +kernel
theorem dL_law_302 : decode cL_law 302 = .ok (.invokevirtual 40, 3) := by decide +kernel
theorem dL_law_305 : decode cL_law 305 = .ok (.if_icmp .eq 605, 3) := by decide +kernel
theorem dL_law_308 : decode cL_law 308 = .ok (.iconst 0, 1) := by decide +kernel
theorem dL_law_309 : decode cL_law 309 = .ok (.ireturn, 1) := by decide +kernel
theorem dL_law_310 : decode cL_law 310 = .ok (.aload_n 1, 1) := by decide +kernel
theorem dL_law_311 : decode cL_law 311 = .ok (.aload_n 0, 1) := by decide +kernel
theorem dL_law_312 : decode cL_law 312 = .ok (.iload_n 3, 1) := by decide +kernel
theorem dL_law_313 : decode cL_law 313 = .ok (.iconst 1, 1) := by decide +kernel
theorem dL_law_314 : decode cL_law 314 = .ok (.iadd, 1) := by decide +kernel
theorem dL_law_315 : decode cL_law 315 = .ok (.iaload, 1) := by decide +kernel
theorem dL_law_316 : decode cL_law 316 = .ok (.aload_n 0, 1) := by decide +kernel
theorem dL_law_317 : decode cL_law 317 = .ok (.iload_n 3, 1) := by decide +kernel
theorem dL_law_318 : decode cL_law 318 = .ok (.iconst 2, 1) := by decide +kernel
theorem dL_law_319 : decode cL_law 319 = .ok (.iadd, 1) := by decide +kernel
theorem dL_law_320 : decode cL_law 320 = .ok (.iaload, 1) := by decide +kernel
theorem dL_law_321 : decode cL_law 321 = .ok (.invokevirtual 41, 3) := by decide +kernel
theorem dL_law_324 : decode cL_law 324 = .ok (.aload_n 2, 1) := by decide +kernel
theorem dL_law_325 : decode cL_law 325 = .ok (.aload_n 0, 1) := by decide +kernel
theorem dL_law_326 : decode cL_law 326 = .ok (.iload_n 3, 1) := by decide +kernel
theorem dL_law_327 : decode cL_law 327 = .ok (.iconst 1, 1) := by decide +kernel
theorem dL_law_328 : decode cL_law 328 = .ok (.iadd, 1) := by decide +kernel
theorem dL_law_329 : decode cL_law 329 = .ok (.iaload, 1) := by decide +kernel
theorem dL_law_330 : decode cL_law 330 = .ok (.aload_n 0, 1) := by decide +kernel
theorem dL_law_331 : decode cL_law 331 = .ok (.iload_n 3, 1) := by decide +kernel
theorem dL_law_332 : decode cL_law 332 = .ok (.iconst 2, 1) := by decide +kernel
theorem dL_law_333 : decode cL_law 333 = .ok (.iadd, 1) := by decide +kernel
theorem dL_law_334 : decode cL_law 334 = .ok (.iaload, 1) := by decide +kernel
theorem dL_law_335 : decode cL_law 335 = .ok (.invokevirtual 44, 3) := by decide +kernel
theorem dL_law_338 : decode cL_law 338 = .ok (.if_icmp .eq 572, 3) := by decide +kernel
theorem dL_law_341 : decode cL_law 341 = .ok (.iconst 0, 1) := by decide +kernel
theorem dL_law_342 : decode cL_law 342 = .ok (.ireturn, 1) := by decide +kernel
theorem dL_law_343 : decode cL_law 343 = .ok (.aload_n 1, 1) := by decide +kernel
theorem dL_law_344 : decode cL_law 344 = .ok (.aload_n 0, 1) := by decide +kernel
theorem dL_law_345 : decode cL_law 345 = .ok (.iload_n 3, 1) := by decide +kernel
theorem dL_law_346 : decode cL_law 346 = .ok (.iconst 1, 1) := by decide +kernel
theorem dL_law_347 : decode cL_law 347 = .ok (.iadd, 1) := by decide +kernel
theorem dL_law_348 : decode cL_law 348 = .ok (.iaload, 1) := by decide +kernel
theorem dL_law_349 : decode cL_law 349 = .ok (.aload_n 0, 1) := by decide +kernel
theorem dL_law_350 : decode cL_law 350 = .ok (.iload_n 3, 1) := by decide +kernel
theorem dL_law_351 : decode cL_law 351 = .ok (.iconst 2, 1) := by decide +kernel
theorem dL_law_352 : decode cL_law 352 = .ok (.iadd, 1) := by decide +kernel
theorem dL_law_353 : decode cL_law 353 = .ok (.iaload, 1) := by decide +kernel
theorem dL_law_354 : decode cL_law 354 = .ok (.invokevirtual 45, 3) := by decide +kernel
theorem dL_law_357 : decode cL_law 357 = .ok (.aload_n 2, 1) := by decide +kernel
theorem dL_law_358 : decode cL_law 358 = .ok (.aload_n 0, 1) := by decide +kernel
theorem dL_law_359 : decode cL_law 359 = .ok (.iload_n 3, 1) := by decide +kernel
theorem dL_law_360 : decode cL_law 360 = .ok (.iconst 1, 1) := by decide +kernel
theorem dL_law_361 : decode cL_law 361 = .ok (.iadd, 1) := by decide +kernel
theorem dL_law_362 : decode cL_law 362 = .ok (.iaload, 1) := by decide +kernel
theorem dL_law_363 : decode cL_law 363 = .ok (.aload_n 0, 1) := by decide +kernel
theorem dL_law_364 : decode cL_law 364 = .ok (.iload_n 3, 1) := by decide +kernel
theorem dL_law_365 : decode cL_law 365 = .ok (.iconst 2, 1) := by decide +kernel
theorem dL_law_366 : decode cL_law 366 = .ok (.iadd, 1) := by decide +kernel
theorem dL_law_367 : decode cL_law 367 = .ok (.iaload, 1) := by decide +kernel
theorem dL_law_368 : decode cL_law 368 = .ok (.invokevirtual 48, 3) := by decide +kernel
theorem dL_law_371 : decode cL_law 371 = .ok (.if_icmp .eq 539, 3) := by decide +kernel
theorem dL_law_374 : decode cL_law 374 = .ok (.iconst 0, 1) := by decide +kernel
theorem dL_law_375 : decode cL_law 375 = .ok (.ireturn, 1) := by decide +kernel
theorem dL_law_376 : decode cL_law 376 = .ok (.aload_n 1, 1) := by decide +kernel
theorem dL_law_377 : decode cL_law 377 = .ok (.aload_n 0, 1) := by decide +kernel
theorem dL_law_378 : decode cL_law 378 = .ok (.iload_n 3, 1) := by decide +kernel
theorem dL_law_379 : decode cL_law 379 = .ok (.iconst 1, 1) := by decide +kernel
theorem dL_law_380 : decode cL_law 380 = .ok (.iadd, 1) := by decide +kernel
theorem dL_law_381 : decode cL_law 381 = .ok (.iaload, 1) := by decide +kernel
theorem dL_law_382 : decode cL_law 382 = .ok (.aload_n 0, 1) := by decide +kernel
theorem dL_law_383 : decode cL_law 383 = .ok (.iload_n 3, 1) := by decide +kernel
theorem dL_law_384 : decode cL_law 384 = .ok (.iconst 2, 1) := by decide +kernel
theorem dL_law_385 : decode cL_law 385 = .ok (.iadd, 1) := by decide +kernel
theorem dL_law_386 : decode cL_law 386 = .ok (.iaload, 1) := by decide +kernel
theorem dL_law_387 : decode cL_law 387 = .ok (.invokevirtual 49, 3) := by decide +kernel
theorem dL_law_390 : decode cL_law 390 = .ok (.aload_n 2, 1) := by decide +kernel
theorem dL_law_391 : decode cL_law 391 = .ok (.aload_n 0, 1) := by decide +kernel
theorem dL_law_392 : decode cL_law 392 = .ok (.iload_n 3, 1) := by decide +kernel
theorem dL_law_393 : decode cL_law 393 = .ok (.iconst 1, 1) := by decide +kernel
theorem dL_law_394 : decode cL_law 394 = .ok (.iadd, 1) := by decide +kernel
theorem dL_law_395 : decode cL_law 395 = .ok (.iaload, 1) := by decide +kernel
theorem dL_law_396 : decode cL_law 396 = .ok (.aload_n 0, 1) := by decide +kernel
theorem dL_law_397 : decode cL_law 397 = .ok (.iload_n 3, 1) := by decide +kernel
theorem dL_law_398 : decode cL_law 398 = .ok (.iconst 2, 1) := by decide +kernel
theorem dL_law_399 : decode cL_law 399 = .ok (.iadd, 1) := by decide +kernel
theorem dL_law_400 : decode cL_law 400 = .ok (.iaload, 1) := by decide +kernel
theorem dL_law_401 : decode cL_law 401 = .ok (.invokevirtual 52, 3) := by decide +kernel
theorem dL_law_404 : decode cL_law 404 = .ok (.if_icmp .eq 506, 3) := by decide +kernel
theorem dL_law_407 : decode cL_law 407 = .ok (.iconst 0, 1) := by decide +kernel
theorem dL_law_408 : decode cL_law 408 = .ok (.ireturn, 1) := by decide +kernel
theorem dL_law_409 : decode cL_law 409 = .ok (.aload_n 1, 1) := by decide +kernel
theorem dL_law_410 : decode cL_law 410 = .ok (.aload_n 0, 1) := by decide +kernel
theorem dL_law_411 : decode cL_law 411 = .ok (.iload_n 3, 1) := by decide +kernel
theorem dL_law_412 : decode cL_law 412 = .ok (.iconst 1, 1) := by decide +kernel
theorem dL_law_413 : decode cL_law 413 = .ok (.iadd, 1) := by decide +kernel
theorem dL_law_414 : decode cL_law 414 = .ok (.iaload, 1) := by decide +kernel
theorem dL_law_415 : decode cL_law 415 = .ok (.aload_n 0, 1) := by decide +kernel
theorem dL_law_416 : decode cL_law 416 = .ok (.iload_n 3, 1) := by decide +kernel
theorem dL_law_417 : decode cL_law 417 = .ok (.iconst 2, 1) := by decide +kernel
theorem dL_law_418 : decode cL_law 418 = .ok (.iadd, 1) := by decide +kernel
theorem dL_law_419 : decode cL_law 419 = .ok (.iaload, 1) := by decide +kernel
theorem dL_law_420 : decode cL_law 420 = .ok (.aload_n 0, 1) := by decide +kernel
theorem dL_law_421 : decode cL_law 421 = .ok (.iload_n 3, 1) := by decide +kernel
theorem dL_law_422 : decode cL_law 422 = .ok (.iconst 3, 1) := by decide +kernel
theorem dL_law_423 : decode cL_law 423 = .ok (.iadd, 1) := by decide +kernel
theorem dL_law_424 : decode cL_law 424 = .ok (.iaload, 1) := by decide +kernel
theorem dL_law_425 : decode cL_law 425 = .ok (.invokevirtual 53, 3) := by decide +kernel
theorem dL_law_428 : decode cL_law 428 = .ok (.aload_n 2, 1) := by decide +kernel
theorem dL_law_429 : decode cL_law 429 = .ok (.aload_n 0, 1) := by decide +kernel
theorem dL_law_430 : decode cL_law 430 = .ok (.iload_n 3, 1) := by decide +kernel
theorem dL_law_431 : decode cL_law 431 = .ok (.iconst 1, 1) := by decide +kernel
theorem dL_law_432 : decode cL_law 432 = .ok (.iadd, 1) := by decide +kernel
theorem dL_law_433 : decode cL_law 433 = .ok (.iaload, 1) := by decide +kernel
theorem dL_law_434 : decode cL_law 434 = .ok (.aload_n 0, 1) := by decide +kernel
theorem dL_law_435 : decode cL_law 435 = .ok (.iload_n 3, 1) := by decide +kernel
theorem dL_law_436 : decode cL_law 436 = .ok (.iconst 2, 1) := by decide +kernel
theorem dL_law_437 : decode cL_law 437 = .ok (.iadd, 1) := by decide +kernel
theorem dL_law_438 : decode cL_law 438 = .ok (.iaload, 1) := by decide +kernel
theorem dL_law_439 : decode cL_law 439 = .ok (.aload_n 0, 1) := by decide +kernel
theorem dL_law_440 : decode cL_law 440 = .ok (.iload_n 3, 1) := by decide +kernel
theorem dL_law_441 : decode cL_law 441 = .ok (.iconst 3, 1) := by decide +kernel
theorem dL_law_442 : decode cL_law 442 = .ok (.iadd, 1) := by decide +kernel
theorem dL_law_443 : decode cL_law 443 = .ok (.iaload, 1) := by decide +kernel
theorem dL_law_444 : decode cL_law 444 = .ok (.invokevirtual 56, 3) := by decide +kernel
theorem dL_law_447 : decode cL_law 447 = .ok (.if_icmp .eq 463, 3) := by decide +kernel
theorem dL_law_450 : decode cL_law 450 = .ok (.iconst 0, 1) := by decide +kernel
theorem dL_law_451 : decode cL_law 451 = .ok (.ireturn, 1) := by decide +kernel
theorem dL_law_452 : decode cL_law 452 = .ok (.aload_n 1, 1) := by decide +kernel
theorem dL_law_453 : decode cL_law 453 = .ok (.aload_n 0, 1) := by decide +kernel
theorem dL_law_454 : decode cL_law 454 = .ok (.iload_n 3, 1) := by decide +kernel
theorem dL_law_455 : decode cL_law 455 = .ok (.iconst 1, 1) := by decide +kernel
theorem dL_law_456 : decode cL_law 456 = .ok (.iadd, 1) := by decide +kernel
theorem dL_law_457 : decode cL_law 457 = .ok (.iaload, 1) := by decide +kernel
theorem dL_law_458 : decode cL_law 458 = .ok (.aload_n 0, 1) := by decide +kernel
theorem dL_law_459 : decode cL_law 459 = .ok (.iload_n 3, 1) := by decide +kernel
theorem dL_law_460 : decode cL_law 460 = .ok (.iconst 2, 1) := by decide +kernel
theorem dL_law_461 : decode cL_law 461 = .ok (.iadd, 1) := by decide +kernel
theorem dL_law_462 : decode cL_law 462 = .ok (.iaload, 1) := by decide +kernel
theorem dL_law_463 : decode cL_law 463 = .ok (.aload_n 0, 1) := by decide +kernel
theorem dL_law_464 : decode cL_law 464 = .ok (.iload_n 3, 1) := by decide +kernel
theorem dL_law_465 : decode cL_law 465 = .ok (.iconst 3, 1) := by decide +kernel
theorem dL_law_466 : decode cL_law 466 = .ok (.iadd, 1) := by decide +kernel
theorem dL_law_467 : decode cL_law 467 = .ok (.iaload, 1) := by decide +kernel
theorem dL_law_468 : decode cL_law 468 = .ok (.invokevirtual 57, 3) := by decide +kernel
theorem dL_law_471 : decode cL_law 471 = .ok (.aload_n 2, 1) := by decide +kernel
theorem dL_law_472 : decode cL_law 472 = .ok (.aload_n 0, 1) := by decide +kernel
theorem dL_law_473 : decode cL_law 473 = .ok (.iload_n 3, 1) := by decide +kernel
theorem dL_law_474 : decode cL_law 474 = .ok (.iconst 1, 1) := by decide +kernel
theorem dL_law_475 : decode cL_law 475 = .ok (.iadd, 1) := by decide +kernel
theorem dL_law_476 : decode cL_law 476 = .ok (.iaload, 1) := by decide +kernel
theorem dL_law_477 : decode cL_law 477 = .ok (.aload_n 0, 1) := by decide +kernel
theorem dL_law_478 : decode cL_law 478 = .ok (.iload_n 3, 1) := by decide +kernel
theorem dL_law_479 : decode cL_law 479 = .ok (.iconst 2, 1) := by decide +kernel
theorem dL_law_480 : decode cL_law 480 = .ok (.iadd, 1) := by decide +kernel
theorem dL_law_481 : decode cL_law 481 = .ok (.iaload, 1) := by decide +kernel
theorem dL_law_482 : decode cL_law 482 = .ok (.aload_n 0, 1) := by decide +kernel
theorem dL_law_483 : decode cL_law 483 = .ok (.iload_n 3, 1) := by decide +kernel
theorem dL_law_484 : decode cL_law 484 = .ok (.iconst 3, 1) := by decide +kernel
theorem dL_law_485 : decode cL_law 485 = .ok (.iadd, 1) := by decide +kernel
theorem dL_law_486 : decode cL_law 486 = .ok (.iaload, 1) := by decide +kernel
theorem dL_law_487 : decode cL_law 487 = .ok (.invokevirtual 60, 3) := by decide +kernel
theorem dL_law_490 : decode cL_law 490 = .ok (.if_icmp .eq 420, 3) := by decide +kernel
theorem dL_law_493 : decode cL_law 493 = .ok (.iconst 0, 1) := by decide +kernel
theorem dL_law_494 : decode cL_law 494 = .ok (.ireturn, 1) := by decide +kernel
theorem dL_law_495 : decode cL_law 495 = .ok (.aload_n 1, 1) := by decide +kernel
theorem dL_law_496 : decode cL_law 496 = .ok (.aload_n 0, 1) := by decide +kernel
theorem dL_law_497 : decode cL_law 497 = .ok (.iload_n 3, 1) := by decide +kernel
theorem dL_law_498 : decode cL_law 498 = .ok (.iconst 1, 1) := by decide +kernel
theorem dL_law_499 : decode cL_law 499 = .ok (.iadd, 1) := by decide +kernel
theorem dL_law_500 : decode cL_law 500 = .ok (.iaload, 1) := by decide +kernel
theorem dL_law_501 : decode cL_law 501 = .ok (.aload_n 0, 1) := by decide +kernel
theorem dL_law_502 : decode cL_law 502 = .ok (.iload_n 3, 1) := by decide +kernel
theorem dL_law_503 : decode cL_law 503 = .ok (.iconst 2, 1) := by decide +kernel
theorem dL_law_504 : decode cL_law 504 = .ok (.iadd, 1) := by decide +kernel
theorem dL_law_505 : decode cL_law 505 = .ok (.iaload, 1) := by decide +kernel
theorem dL_law_506 : decode cL_law 506 = .ok (.invokevirtual 61, 3) := by decide +kernel
theorem dL_law_509 : decode cL_law 509 = .ok (.aload_n 2, 1) := by decide +kernel
theorem dL_law_510 : decode cL_law 510 = .ok (.aload_n 0, 1) := by decide +kernel
theorem dL_law_511 : decode cL_law 511 = .ok (.iload_n 3, 1) := by decide +kernel
theorem dL_law_512 : decode cL_law 512 = .ok (.iconst 1, 1) := by decide +kernel
theorem dL_law_513 : decode cL_law 513 = .ok (.iadd, 1) := by decide +kernel
theorem dL_law_514 : decode cL_law 514 = .ok (.iaload, 1) := by decide +kernel
theorem dL_law_515 : decode cL_law 515 = .ok (.aload_n 0, 1) := by decide +kernel
theorem dL_law_516 : decode cL_law 516 = .ok (.iload_n 3, 1) := by decide +kernel
theorem dL_law_517 : decode cL_law 517 = .ok (.iconst 2, 1) := by decide +kernel
theorem dL_law_518 : decode cL_law 518 = .ok (.iadd, 1) := by decide +kernel
theorem dL_law_519 : decode cL_law 519 = .ok (.iaload, 1) := by decide +kernel
theorem dL_law_520 : decode cL_law 520 = .ok (.invokevirtual 64, 3) := by decide +kernel
theorem dL_law_523 : decode cL_law 523 = .ok (.if_icmp .eq 387, 3) := by decide +kernel
theorem dL_law_526 : decode cL_law 526 = .ok (.iconst 0, 1) := by decide +kernel
theorem dL_law_527 : decode cL_law 527 = .ok (.ireturn, 1) := by decide +kernel
theorem dL_law_528 : decode cL_law 528 = .ok (.aload_n 1, 1) := by decide +kernel
theorem dL_law_529 : decode cL_law 529 = .ok (.aload_n 0, 1) := by decide +kernel
theorem dL_law_530 : decode cL_law 530 = .ok (.iload_n 3, 1) := by decide +kernel
theorem dL_law_531 : decode cL_law 531 = .ok (.iconst 1, 1) := by decide +kernel
theorem dL_law_532 : decode cL_law 532 = .ok (.iadd, 1) := by decide +kernel
theorem dL_law_533 : decode cL_law 533 = .ok (.iaload, 1) := by decide +kernel
theorem dL_law_534 : decode cL_law 534 = .ok (.aload_n 0, 1) := by decide +kernel
theorem dL_law_535 : decode cL_law 535 = .ok (.iload_n 3, 1) := by decide +kernel
theorem dL_law_536 : decode cL_law 536 = .ok (.iconst 2, 1) := by decide +kernel
theorem dL_law_537 : decode cL_law 537 = .ok (.iadd, 1) := by decide +kernel
theorem dL_law_538 : decode cL_law 538 = .ok (.iaload, 1) := by decide +kernel
theorem dL_law_539 : decode cL_law 539 = .ok (.aload_n 0, 1) := by decide +kernel
theorem dL_law_540 : decode cL_law 540 = .ok (.iload_n 3, 1) := by decide +kernel
theorem dL_law_541 : decode cL_law 541 = .ok (.iconst 3, 1) := by decide +kernel
theorem dL_law_542 : decode cL_law 542 = .ok (.iadd, 1) := by decide +kernel
theorem dL_law_543 : decode cL_law 543 = .ok (.iaload, 1) := by decide +kernel
theorem dL_law_544 : decode cL_law 544 = .ok (.invokevirtual 65, 3) := by decide +kernel
theorem dL_law_547 : decode cL_law 547 = .ok (.aload_n 2, 1) := by decide +kernel
theorem dL_law_548 : decode cL_law 548 = .ok (.aload_n 0, 1) := by decide +kernel
theorem dL_law_549 : decode cL_law 549 = .ok (.iload_n 3, 1) := by decide +kernel
theorem dL_law_550 : decode cL_law 550 = .ok (.iconst 1, 1) := by decide +kernel
theorem dL_law_551 : decode cL_law 551 = .ok (.iadd, 1) := by decide +kernel
theorem dL_law_552 : decode cL_law 552 = .ok (.iaload, 1) := by decide +kernel
theorem dL_law_553 : decode cL_law 553 = .ok (.aload_n 0, 1) := by decide +kernel
theorem dL_law_554 : decode cL_law 554 = .ok (.iload_n 3, 1) := by decide +kernel
theorem dL_law_555 : decode cL_law 555 = .ok (.iconst 2, 1) := by decide +kernel
theorem dL_law_556 : decode cL_law 556 = .ok (.iadd, 1) := by decide +kernel
theorem dL_law_557 : decode cL_law 557 = .ok (.iaload, 1) := by decide +kernel
theorem dL_law_558 : decode cL_law 558 = .ok (.aload_n 0, 1) := by decide +kernel
theorem dL_law_559 : decode cL_law 559 = .ok (.iload_n 3, 1) := by decide +kernel
theorem dL_law_560 : decode cL_law 560 = .ok (.iconst 3, 1) := by decide +kernel
theorem dL_law_561 : decode cL_law 561 = .ok (.iadd, 1) := by decide +kernel
theorem dL_law_562 : decode cL_law 562 = .ok (.iaload, 1) := by decide +kernel
theorem dL_law_563 : decode cL_law 563 = .ok (.invokevirtual 68, 3) := by decide +kernel
theorem dL_law_566 : decode cL_law 566 = .ok (.if_icmp .eq 344, 3) := by decide +kernel
theorem dL_law_569 : decode cL_law 569 = .ok (.iconst 0, 1) := by decide +kernel
theorem dL_law_570 : decode cL_law 570 = .ok (.ireturn, 1) := by decide +kernel
theorem dL_law_571 : decode cL_law 571 = .ok (.aload_n 1, 1) := by decide +kernel
theorem dL_law_572 : decode cL_law 572 = .ok (.aload_n 0, 1) := by decide +kernel
theorem dL_law_573 : decode cL_law 573 = .ok (.iload_n 3, 1) := by decide +kernel
theorem dL_law_574 : decode cL_law 574 = .ok (.iconst 1, 1) := by decide +kernel
theorem dL_law_575 : decode cL_law 575 = .ok (.iadd, 1) := by decide +kernel
theorem dL_law_576 : decode cL_law 576 = .ok (.iaload, 1) := by decide +kernel
theorem dL_law_577 : decode cL_law 577 = .ok (.aload_n 0, 1) := by decide +kernel
theorem dL_law_578 : decode cL_law 578 = .ok (.iload_n 3, 1) := by decide +kernel
theorem dL_law_579 : decode cL_law 579 = .ok (.iconst 2, 1) := by decide +kernel
theorem dL_law_580 : decode cL_law 580 = .ok (.iadd, 1) := by decide +kernel
theorem dL_law_581 : decode cL_law 581 = .ok (.iaload, 1) := by decide +kernel
theorem dL_law_582 : decode cL_law 582 = .ok (.invokevirtual 69, 3) := by decide +kernel
theorem dL_law_585 : decode cL_law 585 = .ok (.aload_n 2, 1) := by decide +kernel
theorem dL_law_586 : decode cL_law 586 = .ok (.aload_n 0, 1) := by decide +kernel
theorem dL_law_587 : decode cL_law 587 = .ok (.iload_n 3, 1) := by decide +kernel
theorem dL_law_588 : decode cL_law 588 = .ok (.iconst 1, 1) := by decide +kernel
theorem dL_law_589 : decode cL_law 589 = .ok (.iadd, 1) := by decide +kernel
theorem dL_law_590 : decode cL_law 590 = .ok (.iaload, 1) := by decide +kernel
theorem dL_law_591 : decode cL_law 591 = .ok (.aload_n 0, 1) := by decide +kernel
theorem dL_law_592 : decode cL_law 592 = .ok (.iload_n 3, 1) := by decide +kernel
theorem dL_law_593 : decode cL_law 593 = .ok (.iconst 2, 1) := by decide +kernel
theorem dL_law_594 : decode cL_law 594 = .ok (.iadd, 1) := by decide +kernel
theorem dL_law_595 : decode cL_law 595 = .ok (.iaload, 1) := by decide +kernel
theorem dL_law_596 : decode cL_law 596 = .ok (.invokevirtual 72, 3) := by decide +kernel
theorem dL_law_599 : decode cL_law 599 = .ok (.if_icmp .eq 311, 3) := by decide +kernel
theorem dL_law_602 : decode cL_law 602 = .ok (.iconst 0, 1) := by decide +kernel
theorem dL_law_603 : decode cL_law 603 = .ok (.ireturn, 1) := by decide +kernel
theorem dL_law_604 : decode cL_law 604 = .ok (.aload_n 1, 1) := by decide +kernel
theorem dL_law_605 : decode cL_law 605 = .ok (.aload_n 0, 1) := by decide +kernel
theorem dL_law_606 : decode cL_law 606 = .ok (.iload_n 3, 1) := by decide +kernel
theorem dL_law_607 : decode cL_law 607 = .ok (.iconst 1, 1) := by decide +kernel
theorem dL_law_608 : decode cL_law 608 = .ok (.iadd, 1) := by decide +kernel
theorem dL_law_609 : decode cL_law 609 = .ok (.iaload, 1) := by decide +kernel
theorem dL_law_610 : decode cL_law 610 = .ok (.aload_n 0, 1) := by decide +kernel
theorem dL_law_611 : decode cL_law 611 = .ok (.iload_n 3, 1) := by decide +kernel
theorem dL_law_612 : decode cL_law 612 = .ok (.iconst 2, 1) := by decide +kernel
theorem dL_law_613 : decode cL_law 613 = .ok (.iadd, 1) := by decide +kernel
theorem dL_law_614 : decode cL_law 614 = .ok (.iaload, 1) := by decide +kernel
theorem dL_law_615 : decode cL_law 615 = .ok (.invokevirtual 73, 3) := by decide +kernel
theorem dL_law_618 : decode cL_law 618 = .ok (.aload_n 2, 1) := by decide +kernel
theorem dL_law_619 : decode cL_law 619 = .ok (.aload_n 0, 1) := by decide +kernel
theorem dL_law_620 : decode cL_law 620 = .ok (.iload_n 3, 1) := by decide +kernel
theorem dL_law_621 : decode cL_law 621 = .ok (.iconst 1, 1) := by decide +kernel
theorem dL_law_622 : decode cL_law 622 = .ok (.iadd, 1) := by decide +kernel
theorem dL_law_623 : decode cL_law 623 = .ok (.iaload, 1) := by decide +kernel
theorem dL_law_624 : decode cL_law 624 = .ok (.aload_n 0, 1) := by decide +kernel
theorem dL_law_625 : decode cL_law 625 = .ok (.iload_n 3, 1) := by decide +kernel
theorem dL_law_626 : decode cL_law 626 = .ok (.iconst 2, 1) := by decide +kernel
theorem dL_law_627 : decode cL_law 627 = .ok (.iadd, 1) := by decide +kernel
theorem dL_law_628 : decode cL_law 628 = .ok (.iaload, 1) := by decide +kernel
theorem dL_law_629 : decode cL_law 629 = .ok (.invokevirtual 76, 3) := by decide +kernel
theorem dL_law_632 : decode cL_law 632 = .ok (.if_icmp .eq 278, 3) := by decide +kernel
theorem dL_law_635 : decode cL_law 635 = .ok (.iconst 0, 1) := by decide +kernel
theorem dL_law_636 : decode cL_law 636 = .ok (.ireturn, 1) := by decide +kernel
theorem dL_law_637 : decode cL_law 637 = .ok (.aload_n 1, 1) := by decide +kernel
theorem dL_law_638 : decode cL_law 638 = .ok (.aload_n 0, 1) := by decide +kernel
theorem dL_law_639 : decode cL_law 639 = .ok (.iload_n 3, 1) := by decide +kernel
theorem dL_law_640 : decode cL_law 640 = .ok (.iconst 1, 1) := by decide +kernel
theorem dL_law_641 : decode cL_law 641 = .ok (.iadd, 1) := by decide +kernel
theorem dL_law_642 : decode cL_law 642 = .ok (.iaload, 1) := by decide +kernel
theorem dL_law_643 : decode cL_law 643 = .ok (.invokevirtual 77, 3) := by decide +kernel
theorem dL_law_646 : decode cL_law 646 = .ok (.aload_n 2, 1) := by decide +kernel
theorem dL_law_647 : decode cL_law 647 = .ok (.aload_n 0, 1) := by decide +kernel
theorem dL_law_648 : decode cL_law 648 = .ok (.iload_n 3, 1) := by decide +kernel
theorem dL_law_649 : decode cL_law 649 = .ok (.iconst 1, 1) := by decide +kernel
theorem dL_law_650 : decode cL_law 650 = .ok (.iadd, 1) := by decide +kernel
theorem dL_law_651 : decode cL_law 651 = .ok (.iaload, 1) := by decide +kernel
theorem dL_law_652 : decode cL_law 652 = .ok (.invokevirtual 80, 3) := by decide +kernel
theorem dL_law_655 : decode cL_law 655 = .ok (.if_icmp .eq 255, 3) := by decide +kernel
theorem dL_law_658 : decode cL_law 658 = .ok (.iconst 0, 1) := by decide +kernel
theorem dL_law_659 : decode cL_law 659 = .ok (.ireturn, 1) := by decide +kernel
theorem dL_law_660 : decode cL_law 660 = .ok (.aload_n 1, 1) := by decide +kernel
theorem dL_law_661 : decode cL_law 661 = .ok (.aload_n 0, 1) := by decide +kernel
theorem dL_law_662 : decode cL_law 662 = .ok (.iload_n 3, 1) := by decide +kernel
theorem dL_law_663 : decode cL_law 663 = .ok (.iconst 1, 1) := by decide +kernel
theorem dL_law_664 : decode cL_law 664 = .ok (.iadd, 1) := by decide +kernel
theorem dL_law_665 : decode cL_law 665 = .ok (.iaload, 1) := by decide +kernel
theorem dL_law_666 : decode cL_law 666 = .ok (.aload_n 0, 1) := by decide +kernel
theorem dL_law_667 : decode cL_law 667 = .ok (.iload_n 3, 1) := by decide +kernel
theorem dL_law_668 : decode cL_law 668 = .ok (.iconst 2, 1) := by decide +kernel
theorem dL_law_669 : decode cL_law 669 = .ok (.iadd, 1) := by decide +kernel
theorem dL_law_670 : decode cL_law 670 = .ok (.iaload, 1) := by decide +kernel
theorem dL_law_671 : decode cL_law 671 = .ok (.invokevirtual 81, 3) := by decide +kernel
theorem dL_law_674 : decode cL_law 674 = .ok (.aload_n 2, 1) := by decide +kernel
theorem dL_law_675 : decode cL_law 675 = .ok (.aload_n 0, 1) := by decide +kernel
theorem dL_law_676 : decode cL_law 676 = .ok (.iload_n 3, 1) := by decide +kernel
theorem dL_law_677 : decode cL_law 677 = .ok (.iconst 1, 1) := by decide +kernel
theorem dL_law_678 : decode cL_law 678 = .ok (.iadd, 1) := by decide +kernel
theorem dL_law_679 : decode cL_law 679 = .ok (.iaload, 1) := by decide +kernel
theorem dL_law_680 : decode cL_law 680 = .ok (.aload_n 0, 1) := by decide +kernel
theorem dL_law_681 : decode cL_law 681 = .ok (.iload_n 3, 1) := by decide +kernel
theorem dL_law_682 : decode cL_law 682 = .ok (.iconst 2, 1) := by decide +kernel
theorem dL_law_683 : decode cL_law 683 = .ok (.iadd, 1) := by decide +kernel
theorem dL_law_684 : decode cL_law 684 = .ok (.iaload, 1) := by decide +kernel
theorem dL_law_685 : decode cL_law 685 = .ok (.invokevirtual 84, 3) := by decide +kernel
theorem dL_law_688 : decode cL_law 688 = .ok (.if_icmp .eq 222, 3) := by decide +kernel
theorem dL_law_691 : decode cL_law 691 = .ok (.iconst 0, 1) := by decide +kernel
theorem dL_law_692 : decode cL_law 692 = .ok (.ireturn, 1) := by decide +kernel
theorem dL_law_693 : decode cL_law 693 = .ok (.aload_n 1, 1) := by decide +kernel
theorem dL_law_694 : decode cL_law 694 = .ok (.aload_n 0, 1) := by decide +kernel
theorem dL_law_695 : decode cL_law 695 = .ok (.iload_n 3, 1) := by decide +kernel
theorem dL_law_696 : decode cL_law 696 = .ok (.iconst 1, 1) := by decide +kernel
theorem dL_law_697 : decode cL_law 697 = .ok (.iadd, 1) := by decide +kernel
theorem dL_law_698 : decode cL_law 698 = .ok (.iaload, 1) := by decide +kernel
theorem dL_law_699 : decode cL_law 699 = .ok (.aload_n 0, 1) := by decide +kernel
theorem dL_law_700 : decode cL_law 700 = .ok (.iload_n 3, 1) := by decide +kernel
theorem dL_law_701 : decode cL_law 701 = .ok (.iconst 2, 1) := by decide +kernel
theorem dL_law_702 : decode cL_law 702 = .ok (.iadd, 1) := by decide +kernel
theorem dL_law_703 : decode cL_law 703 = .ok (.iaload, 1) := by decide +kernel
theorem dL_law_704 : decode cL_law 704 = .ok (.invokevirtual 85, 3) := by decide +kernel
theorem dL_law_707 : decode cL_law 707 = .ok (.aload_n 2, 1) := by decide +kernel
theorem dL_law_708 : decode cL_law 708 = .ok (.aload_n 0, 1) := by decide +kernel
theorem dL_law_709 : decode cL_law 709 = .ok (.iload_n 3, 1) := by decide +kernel
theorem dL_law_710 : decode cL_law 710 = .ok (.iconst 1, 1) := by decide +kernel
theorem dL_law_711 : decode cL_law 711 = .ok (.iadd, 1) := by decide +kernel
theorem dL_law_712 : decode cL_law 712 = .ok (.iaload, 1) := by decide +kernel
theorem dL_law_713 : decode cL_law 713 = .ok (.aload_n 0, 1) := by decide +kernel
theorem dL_law_714 : decode cL_law 714 = .ok (.iload_n 3, 1) := by decide +kernel
theorem dL_law_715 : decode cL_law 715 = .ok (.iconst 2, 1) := by decide +kernel
theorem dL_law_716 : decode cL_law 716 = .ok (.iadd, 1) := by decide +kernel
theorem dL_law_717 : decode cL_law 717 = .ok (.iaload, 1) := by decide +kernel
theorem dL_law_718 : decode cL_law 718 = .ok (.invokevirtual 88, 3) := by decide +kernel
theorem dL_law_721 : decode cL_law 721 = .ok (.if_icmp .eq 189, 3) := by decide +kernel
theorem dL_law_724 : decode cL_law 724 = .ok (.iconst 0, 1) := by decide +kernel
theorem dL_law_725 : decode cL_law 725 = .ok (.ireturn, 1) := by decide +kernel
theorem dL_law_726 : decode cL_law 726 = .ok (.aload_n 1, 1) := by decide +kernel
theorem dL_law_727 : decode cL_law 727 = .ok (.aload_n 0, 1) := by decide +kernel
theorem dL_law_728 : decode cL_law 728 = .ok (.iload_n 3, 1) := by decide +kernel
theorem dL_law_729 : decode cL_law 729 = .ok (.iconst 1, 1) := by decide +kernel
theorem dL_law_730 : decode cL_law 730 = .ok (.iadd, 1) := by decide +kernel
theorem dL_law_731 : decode cL_law 731 = .ok (.iaload, 1) := by decide +kernel
theorem dL_law_732 : decode cL_law 732 = .ok (.aload_n 0, 1) := by decide +kernel
theorem dL_law_733 : decode cL_law 733 = .ok (.iload_n 3, 1) := by decide +kernel
theorem dL_law_734 : decode cL_law 734 = .ok (.iconst 2, 1) := by decide +kernel
theorem dL_law_735 : decode cL_law 735 = .ok (.iadd, 1) := by decide +kernel
theorem dL_law_736 : decode cL_law 736 = .ok (.iaload, 1) := by decide +kernel
theorem dL_law_737 : decode cL_law 737 = .ok (.invokevirtual 89, 3) := by decide +kernel
theorem dL_law_740 : decode cL_law 740 = .ok (.aload_n 2, 1) := by decide +kernel
theorem dL_law_741 : decode cL_law 741 = .ok (.aload_n 0, 1) := by decide +kernel
theorem dL_law_742 : decode cL_law 742 = .ok (.iload_n 3, 1) := by decide +kernel
theorem dL_law_743 : decode cL_law 743 = .ok (.iconst 1, 1) := by decide +kernel
theorem dL_law_744 : decode cL_law 744 = .ok (.iadd, 1) := by decide +kernel
theorem dL_law_745 : decode cL_law 745 = .ok (.iaload, 1) := by decide +kernel
theorem dL_law_746 : decode cL_law 746 = .ok (.aload_n 0, 1) := by decide +kernel
theorem dL_law_747 : decode cL_law 747 = .ok (.iload_n 3, 1) := by decide +kernel
theorem dL_law_748 : decode cL_law 748 = .ok (.iconst 2, 1) := by decide +kernel
theorem dL_law_749 : decode cL_law 749 = .ok (.iadd, 1) := by decide +kernel
theorem dL_law_750 : decode cL_law 750 = .ok (.iaload, 1) := by decide +kernel
theorem dL_law_751 : decode cL_law 751 = .ok (.invokevirtual 92, 3) := by decide +kernel
theorem dL_law_754 : decode cL_law 754 = .ok (.if_icmp .eq 156, 3) := by decide +kernel
theorem dL_law_757 : decode cL_law 757 = .ok (.iconst 0, 1) := by decide +kernel
theorem dL_law_758 : decode cL_law 758 = .ok (.ireturn, 1) := by decide +kernel
theorem dL_law_759 : decode cL_law 759 = .ok (.aload_n 1, 1) := by decide +kernel
theorem dL_law_760 : decode cL_law 760 = .ok (.aload_n 0, 1) := by decide +kernel
theorem dL_law_761 : decode cL_law 761 = .ok (.iload_n 3, 1) := by decide +kernel
theorem dL_law_762 : decode cL_law 762 = .ok (.iconst 1, 1) := by decide +kernel
theorem dL_law_763 : decode cL_law 763 = .ok (.iadd, 1) := by decide +kernel
theorem dL_law_764 : decode cL_law 764 = .ok (.iaload, 1) := by decide +kernel
theorem dL_law_765 : decode cL_law 765 = .ok (.i2l, 1) := by decide +kernel
theorem dL_law_766 : decode cL_law 766 = .ok (.bipush 32, 2) := by decide +kernel
theorem dL_law_768 : decode cL_law 768 = .ok (.lshl, 1) := by decide +kernel
theorem dL_law_769 : decode cL_law 769 = .ok (.aload_n 0, 1) := by decide +kernel
theorem dL_law_770 : decode cL_law 770 = .ok (.iload_n 3, 1) := by decide +kernel
theorem dL_law_771 : decode cL_law 771 = .ok (.iconst 2, 1) := by decide +kernel
theorem dL_law_772 : decode cL_law 772 = .ok (.iadd, 1) := by decide +kernel
theorem dL_law_773 : decode cL_law 773 = .ok (.iaload, 1) := by decide +kernel
theorem dL_law_774 : decode cL_law 774 = .ok (.i2l, 1) := by decide +kernel
theorem dL_law_775 : decode cL_law 775 = .ok (.ldc2_w 93, 3) := by decide +kernel
theorem dL_law_778 : decode cL_law 778 = .ok (.land, 1) := by decide +kernel
theorem dL_law_779 : decode cL_law 779 = .ok (.lor, 1) := by decide +kernel
theorem dL_law_780 : decode cL_law 780 = .ok (.invokevirtual 95, 3) := by decide +kernel
theorem dL_law_783 : decode cL_law 783 = .ok (.aload_n 2, 1) := by decide +kernel
theorem dL_law_784 : decode cL_law 784 = .ok (.aload_n 0, 1) := by decide +kernel
theorem dL_law_785 : decode cL_law 785 = .ok (.iload_n 3, 1) := by decide +kernel
theorem dL_law_786 : decode cL_law 786 = .ok (.iconst 1, 1) := by decide +kernel
theorem dL_law_787 : decode cL_law 787 = .ok (.iadd, 1) := by decide +kernel
theorem dL_law_788 : decode cL_law 788 = .ok (.iaload, 1) := by decide +kernel
theorem dL_law_789 : decode cL_law 789 = .ok (.i2l, 1) := by decide +kernel
theorem dL_law_790 : decode cL_law 790 = .ok (.bipush 32, 2) := by decide +kernel
theorem dL_law_792 : decode cL_law 792 = .ok (.lshl, 1) := by decide +kernel
theorem dL_law_793 : decode cL_law 793 = .ok (.aload_n 0, 1) := by decide +kernel
theorem dL_law_794 : decode cL_law 794 = .ok (.iload_n 3, 1) := by decide +kernel
theorem dL_law_795 : decode cL_law 795 = .ok (.iconst 2, 1) := by decide +kernel
theorem dL_law_796 : decode cL_law 796 = .ok (.iadd, 1) := by decide +kernel
theorem dL_law_797 : decode cL_law 797 = .ok (.iaload, 1) := by decide +kernel
theorem dL_law_798 : decode cL_law 798 = .ok (.i2l, 1) := by decide +kernel
theorem dL_law_799 : decode cL_law 799 = .ok (.ldc2_w 93, 3) := by decide +kernel
theorem dL_law_802 : decode cL_law 802 = .ok (.land, 1) := by decide +kernel
theorem dL_law_803 : decode cL_law 803 = .ok (.lor, 1) := by decide +kernel
theorem dL_law_804 : decode cL_law 804 = .ok (.invokevirtual 99, 3) := by decide +kernel
theorem dL_law_807 : decode cL_law 807 = .ok (.if_icmp .eq 103, 3) := by decide +kernel
theorem dL_law_810 : decode cL_law 810 = .ok (.iconst 0, 1) := by decide +kernel
theorem dL_law_811 : decode cL_law 811 = .ok (.ireturn, 1) := by decide +kernel
theorem dL_law_812 : decode cL_law 812 = .ok (.aload_n 1, 1) := by decide +kernel
theorem dL_law_813 : decode cL_law 813 = .ok (.invokevirtual 100, 3) := by decide +kernel
theorem dL_law_816 : decode cL_law 816 = .ok (.aload_n 2, 1) := by decide +kernel
theorem dL_law_817 : decode cL_law 817 = .ok (.invokevirtual 103, 3) := by decide +kernel
theorem dL_law_820 : decode cL_law 820 = .ok (.if_icmp .eq 90, 3) := by decide +kernel
theorem dL_law_823 : decode cL_law 823 = .ok (.iconst 0, 1) := by decide +kernel
theorem dL_law_824 : decode cL_law 824 = .ok (.ireturn, 1) := by decide +kernel
theorem dL_law_825 : decode cL_law 825 = .ok (.aload_n 1, 1) := by decide +kernel
theorem dL_law_826 : decode cL_law 826 = .ok (.invokevirtual 104, 3) := by decide +kernel
theorem dL_law_829 : decode cL_law 829 = .ok (.aload_n 2, 1) := by decide +kernel
theorem dL_law_830 : decode cL_law 830 = .ok (.invokevirtual 107, 3) := by decide +kernel
theorem dL_law_833 : decode cL_law 833 = .ok (.if_icmp .eq 77, 3) := by decide +kernel
theorem dL_law_836 : decode cL_law 836 = .ok (.iconst 0, 1) := by decide +kernel
theorem dL_law_837 : decode cL_law 837 = .ok (.ireturn, 1) := by decide +kernel
theorem dL_law_838 : decode cL_law 838 = .ok (.aload_n 1, 1) := by decide +kernel
theorem dL_law_839 : decode cL_law 839 = .ok (.invokevirtual 108, 3) := by decide +kernel
theorem dL_law_842 : decode cL_law 842 = .ok (.aload_n 2, 1) := by decide +kernel
theorem dL_law_843 : decode cL_law 843 = .ok (.invokevirtual 111, 3) := by decide +kernel
theorem dL_law_846 : decode cL_law 846 = .ok (.if_icmp .eq 64, 3) := by decide +kernel
theorem dL_law_849 : decode cL_law 849 = .ok (.iconst 0, 1) := by decide +kernel
theorem dL_law_850 : decode cL_law 850 = .ok (.ireturn, 1) := by decide +kernel
theorem dL_law_851 : decode cL_law 851 = .ok (.aload_n 1, 1) := by decide +kernel
theorem dL_law_852 : decode cL_law 852 = .ok (.invokevirtual 112, 3) := by decide +kernel
theorem dL_law_855 : decode cL_law 855 = .ok (.aload_n 2, 1) := by decide +kernel
theorem dL_law_856 : decode cL_law 856 = .ok (.invokevirtual 115, 3) := by decide +kernel
theorem dL_law_859 : decode cL_law 859 = .ok (.if_icmp .eq 51, 3) := by decide +kernel
theorem dL_law_862 : decode cL_law 862 = .ok (.iconst 0, 1) := by decide +kernel
theorem dL_law_863 : decode cL_law 863 = .ok (.ireturn, 1) := by decide +kernel
theorem dL_law_864 : decode cL_law 864 = .ok (.aload_n 1, 1) := by decide +kernel
theorem dL_law_865 : decode cL_law 865 = .ok (.aload_n 0, 1) := by decide +kernel
theorem dL_law_866 : decode cL_law 866 = .ok (.iload_n 3, 1) := by decide +kernel
theorem dL_law_867 : decode cL_law 867 = .ok (.iconst 1, 1) := by decide +kernel
theorem dL_law_868 : decode cL_law 868 = .ok (.iadd, 1) := by decide +kernel
theorem dL_law_869 : decode cL_law 869 = .ok (.iaload, 1) := by decide +kernel
theorem dL_law_870 : decode cL_law 870 = .ok (.invokevirtual 116, 3) := by decide +kernel
theorem dL_law_873 : decode cL_law 873 = .ok (.aload_n 2, 1) := by decide +kernel
theorem dL_law_874 : decode cL_law 874 = .ok (.aload_n 0, 1) := by decide +kernel
theorem dL_law_875 : decode cL_law 875 = .ok (.iload_n 3, 1) := by decide +kernel
theorem dL_law_876 : decode cL_law 876 = .ok (.iconst 1, 1) := by decide +kernel
theorem dL_law_877 : decode cL_law 877 = .ok (.iadd, 1) := by decide +kernel
theorem dL_law_878 : decode cL_law 878 = .ok (.iaload, 1) := by decide +kernel
theorem dL_law_879 : decode cL_law 879 = .ok (.invokevirtual 119, 3) := by decide +kernel
theorem dL_law_882 : decode cL_law 882 = .ok (.if_icmp .eq 28, 3) := by decide +kernel
theorem dL_law_885 : decode cL_law 885 = .ok (.iconst 0, 1) := by decide +kernel
theorem dL_law_886 : decode cL_law 886 = .ok (.ireturn, 1) := by decide +kernel
theorem dL_law_887 : decode cL_law 887 = .ok (.aload_n 1, 1) := by decide +kernel
theorem dL_law_888 : decode cL_law 888 = .ok (.aload_n 0, 1) := by decide +kernel
theorem dL_law_889 : decode cL_law 889 = .ok (.iload_n 3, 1) := by decide +kernel
theorem dL_law_890 : decode cL_law 890 = .ok (.iconst 1, 1) := by decide +kernel
theorem dL_law_891 : decode cL_law 891 = .ok (.iadd, 1) := by decide +kernel
theorem dL_law_892 : decode cL_law 892 = .ok (.iaload, 1) := by decide +kernel
theorem dL_law_893 : decode cL_law 893 = .ok (.invokevirtual 120, 3) := by decide +kernel
theorem dL_law_896 : decode cL_law 896 = .ok (.aload_n 2, 1) := by decide +kernel
theorem dL_law_897 : decode cL_law 897 = .ok (.aload_n 0, 1) := by decide +kernel
theorem dL_law_898 : decode cL_law 898 = .ok (.iload_n 3, 1) := by decide +kernel
theorem dL_law_899 : decode cL_law 899 = .ok (.iconst 1, 1) := by decide +kernel
theorem dL_law_900 : decode cL_law 900 = .ok (.iadd, 1) := by decide +kernel
theorem dL_law_901 : decode cL_law 901 = .ok (.iaload, 1) := by decide +kernel
theorem dL_law_902 : decode cL_law 902 = .ok (.invokevirtual 123, 3) := by decide +kernel
theorem dL_law_905 : decode cL_law 905 = .ok (.if_icmp .eq 5, 3) := by decide +kernel
theorem dL_law_908 : decode cL_law 908 = .ok (.iconst 0, 1) := by decide +kernel
theorem dL_law_909 : decode cL_law 909 = .ok (.ireturn, 1) := by decide +kernel
theorem dL_law_910 : decode cL_law 910 = .ok (.iinc 3 4, 3) := by decide +kernel
theorem dL_law_913 : decode cL_law 913 = .ok (.goto (-895), 3) := by decide +kernel
theorem dL_law_916 : decode cL_law 916 = .ok (.iconst 1, 1) := by decide +kernel
theorem dL_law_917 : decode cL_law 917 = .ok (.ireturn, 1) := by decide +kernel
end
section
/-! the abstract memory: whole numbers by cell (counted from the first cell that the law makes) and place; the cells to which the history's references lead -/
abbrev ps_M : Type := (Nat → Nat → Int32) × (Nat → Nat)
def ps_rd (M : ps_M) (a j : Nat) : Int32 := M.1 a j
def ps_rr (M : ps_M) (j : Nat) : Nat := M.2 j
def ps_st (M : ps_M) (a j : Nat) (v : Int32) : ps_M := (fun x k => if x = a ∧ k = j then v else M.1 x k, M.2)
def ps_sr (M : ps_M) (j h : Nat) : ps_M := (M.1, fun k => if k = j then h else M.2 k)
def ps_cp (M : ps_M) (sa sp da dp n : Nat) : ps_M := (fun x k => if x = da ∧ dp ≤ k ∧ k < dp + n then M.1 sa (sp + (k - dp)) else M.1 x k, M.2)
def ps_kP (d : Nat) : Nat := match d with
  | 0 => 9 | 1 => 10 | _ => 11
def ps_kH (d : Nat) : Nat := match d with
  | 0 => 1 | 1 => 2 | 2 => 3 | 3 => 4 | 4 => 5 | 5 => 5 | 6 => 5 | 7 => 5 | 8 => 5 | 9 => 5 | 10 => 5 | 11 => 5 | 12 => 6 | 13 => 6 | 14 => 7 | 15 => 8
  | d => ps_kP ((d - 16) % 6)
def ps_kn (k : Nat) : Nat := if k < 1 then 0 else if k < 41 then ps_kH (k-1) else if k < 42 then 12 else if k < 43 then 13 else if k < 323 then ps_kH ((k-43) % 40) else if k < 324 then 14 else if k < 325 then 15 else if k < 326 then 16 else if k < 327 then 17 else if k < 328 then 18 else if k < 329 then 19 else if k < 335 then ps_kP (k-329) else if k < 415 then ps_kH ((k-335)%40) else if k < 416 then 20 else if k < 419 then 21 else if k < 420 then 22 else if k < 421 then 23 else if k < 422 then 19 else if k < 423 then 8 else if k < 424 then 25 else 16
def ps_ck (κ k : Nat) : Bool := decide (k < 425) && (ps_kn k == κ)
def ps_cel (b : Nat) (D : va_G) (κ a : Nat) (f : Nat → Int32) (r : Nat → Nat) : va_E := match κ with
  | 0 => .inr (6, [.ref (b + (a + 1)), .ref (b + (a + 41)), .ref (b + (a + 323)), .ref (b + (a + 327)), .ref (b + (a + 328)), .ref (b + (a + 329))])
  | 1 => .inr (1, [.ref (b + (a + 1)), .ref (b + (a + 2)), .ref (b + (a + 14)), .int (f 3), .int (f 4), .ref (b + (a + 15))])
  | 2 => .inl (D.1 10, 4, .inl f)
  | 3 => .inr (5, [.ref (b + (a + 1)), .ref (b + (a + 10)), .ref (b + (a + 11)), .int (f 3)])
  | 4 => .inl (D.1 13, 8, .inr (.inr (.inr (.inr (fun j => some (b + (a + 1 + j)))))))
  | 5 => .inl (D.1 10, 20, .inl f)
  | 6 => .inl (D.1 10, 8, .inl f)
  | 7 => .inl (D.1 15, 4, .inr (.inr (.inr (.inr (fun j => some (b + (a + 2 + 6 * j)))))))
  | 8 => .inl (D.1 10, 40, .inl f)
  | 9 => .inr (3, [.ref (b + (a + 1)), .int (f 1), .int (f 2), .int (f 3), .int (f 4), .int (f 5)])
  | 10 => .inl (D.1 13, 4, .inr (.inr (.inr (.inr (fun j => some (b + (a + 1 + j)))))))
  | 11 => .inl (D.1 10, 61, .inl f)
  | 12 => .inr (0, [.ref (b + (a + 1)), .ref (b + r 6), .int (f 2)])
  | 13 => .inl (D.1 14, 6, .inr (.inr (.inr (.inr (fun j => if j < 6 then some (b + r j) else none)))))
  | 14 => .inr (4, [.ref (b + (a + 1)), .int (f 1), .int (f 2), .int (f 3), .int (f 4), .int (f 5), .int (f 6), .ref (b + (a + 3)), .int (f 8)])
  | 15 => .inr (2, [.ref (b + (a + 1)), .int (f 1)])
  | 16 => .inl (D.1 11, 80, .inl f)
  | 17 => .inl (D.1 10, 20, .inl f)
  | 18 => .inl (D.1 14, 2, .inr (.inr (.inr (.inr (fun j => some (b + (a + 8 + 40 * j)))))))
  | 19 => .inl (D.1 12, 2, .inl f)
  | 20 => .inr (7, [.ref (b + (a + 1)), .ref (b + (a + 2)), .ref (b + (a + 3)), .ref (b + (a + 4)), .ref (b + (a + 5)), .ref (b + (a + 6)), .ref (b + (a + 7)), .ref (b + (a + 8)), .ref (b + (a + 9)), .int (f 9), .int (f 10), .int (f 11), .int (f 12)])
  | 21 => .inl (D.1 10, 937, .inl f)
  | 22 => .inl (D.1 10, 5622, .inl f)
  | 23 => .inl (D.1 10, 1874, .inl f)
  | 25 => .inl (D.1 10, 164, .inl f)
  | _ => .inl (D.1 10, 0, .inl f)
def ps_tys (D : va_G) : List (ClassId × FieldType) := [(D.1 10, .int), (D.1 11, .char), (D.1 12, .boolean), (D.1 13, .array .int), (D.1 14, .object RX1), (D.1 15, .object RX3)]
def ps_wl (b : Nat) (D : va_G) (M : ps_M) : va_W := (List.range 425).map (fun k => (b + k, ps_cel b D (ps_kn k) k (M.1 k) M.2))
def ps_A (b : Nat) : Nat → Prop := fun q => b ≤ q
def ps_ro (M : ps_M) : Prop := ∀ j, j < 7 → ps_ck 1 (ps_rr M j) = true
def ps_least (j : Nat) : Int32 := match j with | 0 => 4 | 1 => 0 | 2 => 1 | _ => 1
def ps_most (j : Nat) : Int32 := match j with | 0 => 60 | 1 => 3 | 2 => 3 | _ => 60
def ps_first (j : Nat) : Int32 := match j with | 0 => 24 | 1 => 1 | 2 => 1 | _ => 20
def ps_Z (b : Nat) (U : State) (H : Heap) : Prop := ∃ t1 t2 t3 : Nat, (va_Z RX6 "LEAST_VALUES" "[I" (.ref t1) (ps_A b) U H ∧ va_T .int t1 4 (fun j => .int (ps_least j)) (ps_A b) U H) ∧ (va_Z RX6 "MOST_VALUES" "[I" (.ref t2) (ps_A b) U H ∧ va_T .int t2 4 (fun j => .int (ps_most j)) (ps_A b) U H) ∧ (va_Z RX6 "FIRST_VALUES" "[I" (.ref t3) (ps_A b) U H ∧ va_T .int t3 4 (fun j => .int (ps_first j)) (ps_A b) U H)
def ps_nest (U : State) : Prop := (va_Nw (.fieldLinkNest RX1 55 RX6 "LEAST_VALUES" "[I" RX6) U ∧ va_Nw (.fieldLinkNest RX1 58 RX6 "MOST_VALUES" "[I" RX6) U ∧ va_Nw (.methodLinkNest RX0 28 yX6_isError RX6) U)
def ps_K (b : Nat) (D : va_G) (U : State) : Prop := va_K D vwCl (ps_tys D) U ∧ ps_nest U ∧ ps_Z b U U.heap
def ps_W (b : Nat) (D : va_G) (M : ps_M) (U : State) : Prop := va_P D vwCl (ps_wl b D M) U.heap ∧ ps_ro M ∧ ps_K b D U
theorem ps_Z_kept {b : Nat} {U V : State} {H H1 : Heap} (hvm : U.vm.Alike V.vm) (h : ps_Z b U H) (hq : ∀ a : Nat, a < H.size → ¬ ps_A b a → H1[a]? = H[a]?) : ps_Z b V H1 := by
  obtain ⟨t1, t2, t3, ⟨a1, a2⟩, ⟨b1, b2⟩, c1, c2⟩ := h
  exact ⟨t1, t2, t3, ⟨(a1.moved hvm).kept hq, (a2.moved hvm).kept hq⟩, ⟨(b1.moved hvm).kept hq, (b2.moved hvm).kept hq⟩, (c1.moved hvm).kept hq, (c2.moved hvm).kept hq⟩
theorem ps_K_warm {b : Nat} {D : va_G} {s U : State} {H : Heap} {locs : List Loc} (hW : s.WarmedH U.vm) (hU : U.heap = H) (hS : va_S (ps_A b) s.heap H locs) (h : ps_K b D s) : ps_K b D U := by
  obtain ⟨h1, ⟨n1, n2, n3⟩, h3⟩ := h
  refine ⟨va_K.moved hW.alike h1, ⟨va_Nw.warmF hW n1, va_Nw.warmF hW n2, va_Nw.warmM hW n3⟩, ?_⟩
  rw [hU]
  exact ps_Z_kept hW.alike h3 hS.2.1
/-- the fixed things of a frame: the machine, the room, the code, the cells made so far, the locals' number, the first cell, the classes, the goal -/
abbrev ps_X : Type := Program × Launch × Env × Room × State × MethodId × Array Value × List Frame × Method × Code × Nat × Nat × Nat × Nat × va_G × (State → Prop)
abbrev xp (X : ps_X) : Program := X.1
abbrev xl (X : ps_X) : Launch := X.2.1
abbrev xe (X : ps_X) : Env := X.2.2.1
abbrev xR (X : ps_X) : Room := X.2.2.2.1
abbrev xs (X : ps_X) : State := X.2.2.2.2.1
abbrev xm (X : ps_X) : MethodId := X.2.2.2.2.2.1
abbrev xa (X : ps_X) : Array Value := X.2.2.2.2.2.2.1
abbrev xw (X : ps_X) : List Frame := X.2.2.2.2.2.2.2.1
abbrev xh (X : ps_X) : Method := X.2.2.2.2.2.2.2.2.1
abbrev xc (X : ps_X) : Code := X.2.2.2.2.2.2.2.2.2.1
abbrev xk (X : ps_X) : Nat := X.2.2.2.2.2.2.2.2.2.2.1
abbrev xo (X : ps_X) : Nat := X.2.2.2.2.2.2.2.2.2.2.2.1
abbrev xn (X : ps_X) : Nat := X.2.2.2.2.2.2.2.2.2.2.2.2.1
abbrev xb (X : ps_X) : Nat := X.2.2.2.2.2.2.2.2.2.2.2.2.2.1
abbrev xD (X : ps_X) : va_G := X.2.2.2.2.2.2.2.2.2.2.2.2.2.2.1
abbrev xQ (X : ps_X) : State → Prop := X.2.2.2.2.2.2.2.2.2.2.2.2.2.2.2
/-- the locals, by their places; none: nothing is said -/
def ps_lv (ls : Array Slot) (n : Nat) (lv : List (Option Value)) : Prop := lv.length = n ∧ ls.size = n ∧ lv_wf ls ∧ ∀ (i : Nat) (v : Value), lv[i]? = some (some v) → ls[i]? = some (.val v)
def ps_T : List Cond := lw_tbl.filter goodWord
def ps_ws (y : MethodName) (cc : ByteArray) (n : Nat) (ret : Option FieldType) : List Cond := .code y cc n ret :: ps_T
theorem ps_in {w : Cond} (i : Nat) (h : tables_1[i]? = some w) (hg : goodWord w = true) : w ∈ ps_T := List.mem_filter.mpr ⟨List.mem_append_right _ (List.mem_of_getElem? h), hg⟩
theorem ps_inS {w : Cond} (i : Nat) (h : (k2_sels lw_privs)[i]? = some w) (hg : goodWord w = true) : w ∈ ps_T := List.mem_filter.mpr ⟨List.mem_append_left _ (List.mem_of_getElem? h), hg⟩
theorem ps_good {y : MethodName} {cc : ByteArray} {n : Nat} {ret : Option FieldType} (h : Cond.code y cc n ret ∈ ps_T) : GoodIn ps_T (ps_ws y cc n ret) := by
  have hb : ∀ w ∈ ps_T, w ∈ ps_T ∧ ((w.onTables && w.keeps) = true ∨ ∃ ty, w = .arrayClass ty) := fun w hw => ⟨hw, good_of_word (List.mem_filter.mp hw).2⟩
  intro w hw
  rcases List.mem_cons.mp hw with rfl | hw
  · exact hb _ h
  · exact hb _ hw
def ps_C (X : ps_X) (own : String) (cc : ByteArray) : Prop := (xp X).tables.exec = Jvm.exec ∧ (xc X).code = cc ∧ (xc X).maxLocals = xn X ∧ (xs X).vm.findClass own = some (xm X).cls ∧ (∀ w ∈ ps_T, w.before (xa X) (xs X) = true) ∧ ps_K (xb X) (xD X) (xs X) ∧ (xh X).locks = false ∧ xk X ≤ (xR X).cells ∧ xo X ≤ (xR X).slots
def ps_G (X : ps_X) (M : ps_M) (pc : Nat) (lv : List (Option Value)) (stk : List Value) : Prop :=
  ∀ (H : Heap) (locs : List Loc) (ls : Array Slot), va_P (xD X) vwCl (ps_wl (xb X) (xD X) M) H → ps_ro M → va_S (ps_A (xb X)) (xs X).heap H locs → ps_lv ls (xn X) lv →
    W (xp X) (xl X) (xe X) (xR X) (xs X) (xm X) (xa X) (xw X) (xh X) (xc X) H locs (xk X) (xo X) (xQ X) (F0 (xm X) pc ls stk)
/-! the world as a list -/
theorem ps_ck_lt {κ a : Nat} (h : ps_ck κ a = true) : a < 425 := by
  simp only [ps_ck, Bool.and_eq_true, decide_eq_true_eq] at h
  exact h.1
theorem ps_ck_kn {κ a : Nat} (h : ps_ck κ a = true) : ps_kn a = κ := by
  simp only [ps_ck, Bool.and_eq_true, beq_iff_eq] at h
  exact h.2
theorem ps_wl_get {b : Nat} {D : va_G} {M : ps_M} {κ a : Nat} (h : ps_ck κ a = true) : (ps_wl b D M)[a]? = some (b + a, ps_cel b D κ a (M.1 a) M.2) := by
  unfold ps_wl
  rw [List.getElem?_map, List.getElem?_range (ps_ck_lt h), ← ps_ck_kn h]
  rfl
theorem ps_wl_at {b : Nat} {D : va_G} {M : ps_M} {i : Nat} {q : Nat × va_E} (h : (ps_wl b D M)[i]? = some q) : q.1 = b + i := by
  unfold ps_wl at h
  rw [List.getElem?_map] at h
  by_cases hi : i < 425
  · rw [List.getElem?_range hi] at h
    cases h
    rfl
  · rw [List.getElem?_eq_none (by rw [List.length_range]; omega)] at h
    cases h
theorem ps_wl_D {b : Nat} {D : va_G} {M : ps_M} : va_D (ps_A b) (ps_wl b D M) := by
  refine ⟨fun i j p q hi hj h => ?_, fun k q hk => ?_⟩
  · have h1 := ps_wl_at hi
    have h2 := ps_wl_at hj
    omega
  · have h1 := ps_wl_at hk
    show b ≤ q.1
    omega
theorem ps_wl_set {b : Nat} {D : va_G} {M M1 : ps_M} {κ a : Nat} {x : va_E} (h : ps_ck κ a = true) (he : ps_cel b D κ a (M1.1 a) M1.2 = x) (ho : ∀ k, k < 425 → k ≠ a → ps_cel b D (ps_kn k) k (M1.1 k) M1.2 = ps_cel b D (ps_kn k) k (M.1 k) M.2) : (ps_wl b D M).set a (b + a, x) = ps_wl b D M1 := by
  apply List.ext_getElem?
  intro i
  have hl : (ps_wl b D M).length = 425 := by simp [ps_wl]
  by_cases hi : i = a
  · subst hi
    rw [List.getElem?_set_self (by rw [hl]; exact ps_ck_lt h), ps_wl_get h, he]
  · rw [List.getElem?_set_ne (Ne.symm hi)]
    unfold ps_wl
    rw [List.getElem?_map, List.getElem?_map]
    by_cases h4 : i < 425
    · rw [List.getElem?_range h4]
      show some _ = some _
      exact congrArg some (congrArg (fun z => (b + i, z)) (ho i h4 hi).symm)
    · rw [List.getElem?_eq_none (by rw [List.length_range]; omega)]
      rfl
theorem ps_st_ne {M : ps_M} {a j k : Nat} {v : Int32} (h : k ≠ a) : (ps_st M a j v).1 k = M.1 k := by
  funext q
  show (if k = a ∧ q = j then v else M.1 k q) = M.1 k q
  rw [if_neg (fun z => h z.1)]
theorem ps_st_self {M : ps_M} {a j : Nat} {v : Int32} : (ps_st M a j v).1 a = fun q => if q = j then v else M.1 a q := by
  funext q
  show (if a = a ∧ q = j then v else M.1 a q) = _
  by_cases h : q = j
  · rw [if_pos ⟨rfl, h⟩, if_pos h]
  · rw [if_neg (fun z => h z.2), if_neg h]
theorem ps_st_ho {M : ps_M} {a j : Nat} {v : Int32} {b : Nat} {D : va_G} : ∀ k, k < 425 → k ≠ a → ps_cel b D (ps_kn k) k ((ps_st M a j v).1 k) (ps_st M a j v).2 = ps_cel b D (ps_kn k) k (M.1 k) M.2 := fun k _ h => by
  rw [ps_st_ne h]
  rfl
theorem ps_cp_ne {M : ps_M} {sa sp da dp n k : Nat} (h : k ≠ da) : (ps_cp M sa sp da dp n).1 k = M.1 k := by
  funext q
  show (if k = da ∧ dp ≤ q ∧ q < dp + n then M.1 sa (sp + (q - dp)) else M.1 k q) = M.1 k q
  rw [if_neg (fun z => h z.1)]
theorem ps_cp_self {M : ps_M} {sa sp da dp n : Nat} : (ps_cp M sa sp da dp n).1 da = va_cpy (M.1 sa) (M.1 da) sp dp n := by
  funext q
  show (if da = da ∧ dp ≤ q ∧ q < dp + n then M.1 sa (sp + (q - dp)) else M.1 da q) = if dp ≤ q ∧ q < dp + n then _ else _
  by_cases h : dp ≤ q ∧ q < dp + n
  · rw [if_pos ⟨rfl, h⟩, if_pos h]
  · rw [if_neg (fun z => h z.2), if_neg h]
theorem ps_cp_ho {M : ps_M} {sa sp da dp n : Nat} {b : Nat} {D : va_G} : ∀ k, k < 425 → k ≠ da → ps_cel b D (ps_kn k) k ((ps_cp M sa sp da dp n).1 k) (ps_cp M sa sp da dp n).2 = ps_cel b D (ps_kn k) k (M.1 k) M.2 := fun k _ h => by
  rw [ps_cp_ne h]
  rfl
/-! pieces of a run -/
def ps_let {α β : Type} (x : α) (f : α → β) : β := f x
def ps_b2 {β : Type} (x : Option (Int32 × ps_M)) (f : Int32 → ps_M → Option β) : Option β := x.bind (fun u => f u.1 u.2)
def ps_inB (i : Int32) (n : Nat) : Bool := decide (0 ≤ i.toInt ∧ i.toInt < n)
def ps_isB (v : Int32) : Bool := decide (v = 0 ∨ v = 1)
def ps_isC (v : Int32) : Bool := decide (0 ≤ v.toInt ∧ v.toInt < 65536)
def ps_cpO (sp dp n : Int32) (n0 n1 : Nat) : Bool := decide (0 ≤ sp.toInt ∧ 0 ≤ dp.toInt ∧ 0 ≤ n.toInt ∧ sp.toInt + n.toInt ≤ n0 ∧ dp.toInt + n.toInt ≤ n1)
theorem ps_ip {c : Prop} {d : Decidable c} {α : Type} {x y r : α} (hc : c) (h : (if c then x else y) = r) : x = r := by rwa [if_pos hc] at h
theorem ps_in0 {c : Prop} {d : Decidable c} {α : Type} {x y r : α} (hc : ¬ c) (h : (if c then x else y) = r) : y = r := by rwa [if_neg hc] at h
theorem ps_gd {c : Prop} {d : Decidable c} {α : Type} {x : Option α} {r : α} (h : (if c then x else none) = some r) : c ∧ x = some r := by
  by_cases hc : c
  · rw [if_pos hc] at h
    exact ⟨hc, h⟩
  · rw [if_neg hc] at h
    cases h
theorem ps_lt {α β : Type} {x y : α} {f : α → β} {r : β} (e : y = x) (h : ps_let x f = r) : f y = r := by rw [e]; exact h
theorem ps_bd {β : Type} {x : Option (Int32 × ps_M)} {f : Int32 → ps_M → Option β} {r : β} (h : ps_b2 x f = some r) : ∃ (v : Int32) (M1 : ps_M), x = some (v, M1) ∧ f v M1 = some r := by
  unfold ps_b2 at h
  cases hx : x with
  | none => rw [hx] at h; cases h
  | some u => rw [hx] at h; exact ⟨u.1, u.2, rfl, h⟩
theorem ps_inB_in {i : Int32} {n : Nat} (h : ps_inB i n = true) : vp_in i n := vp_in_iff.mpr (of_decide_eq_true h)
theorem ps_isB_n {v : Int32} (h : ps_isB v = true) : narrow .boolean (.int v) = .int v := by
  rcases of_decide_eq_true h with rfl | rfl <;> rfl
theorem ps_isC_n {v : Int32} (h : ps_isC v = true) : narrow .char (.int v) = .int v ∧ fits .char (.int v) = true := by
  obtain ⟨h1, h2⟩ := of_decide_eq_true h
  obtain ⟨j, hj, rfl⟩ := vp_in_of (vp_in_iff.mpr ⟨h1, h2⟩) (n := 65536) (by decide)
  exact pk_charN hj
theorem ps_cpO_s {sp dp n : Int32} {n0 n1 : Nat} (h : ps_cpO sp dp n n0 n1 = true) : ¬ sp < 0 ∧ ¬ dp < 0 ∧ ¬ n < 0 ∧ sp.toNatClampNeg + n.toNatClampNeg ≤ n0 ∧ dp.toNatClampNeg + n.toNatClampNeg ≤ n1 := by
  obtain ⟨h1, h2, h3, h4, h5⟩ := of_decide_eq_true h
  have e : ∀ z : Int32, 0 ≤ z.toInt → ¬ z < 0 ∧ (z.toNatClampNeg : Int) = z.toInt := fun z hz => by
    refine ⟨fun q => ?_, ?_⟩
    · have := Int32.lt_iff_toInt_lt.mp q
      simp at this
      omega
    · show ((z.toInt.toNat : Nat) : Int) = z.toInt
      omega
  have a1 := e sp h1
  have a2 := e dp h2
  have a3 := e n h3
  exact ⟨a1.1, a2.1, a3.1, by omega, by omega⟩
/-! the locals -/
def ps_pairs : Nat → List (Option Value) → List (Nat × Value)
  | _, [] => []
  | i, none :: l => ps_pairs (i + 1) l
  | i, some v :: l => (i, v) :: ps_pairs (i + 1) l
theorem ps_pairs_in : ∀ (lv : List (Option Value)) (n i : Nat) (v : Value), lv[i]? = some (some v) → (n + i, v) ∈ ps_pairs n lv
  | [], n, i, v, h => by simp at h
  | none :: l, n, 0, v, h => by simp at h
  | none :: l, n, i + 1, v, h => by
    have := ps_pairs_in l (n + 1) i v (by simpa using h)
    rw [show n + (i + 1) = n + 1 + i by omega]
    exact this
  | some x :: l, n, 0, v, h => by
    simp at h
    subst h
    exact List.mem_cons_self
  | some x :: l, n, i + 1, v, h => by
    have := ps_pairs_in l (n + 1) i v (by simpa using h)
    rw [show n + (i + 1) = n + 1 + i by omega]
    exact List.mem_cons_of_mem _ this
theorem ps_pairs_of : ∀ (lv : List (Option Value)) (n i : Nat) (v : Value), (i, v) ∈ ps_pairs n lv → n ≤ i ∧ lv[i - n]? = some (some v)
  | [], n, i, v, h => by simp [ps_pairs] at h
  | none :: l, n, i, v, h => by
    obtain ⟨h1, h2⟩ := ps_pairs_of l (n + 1) i v h
    refine ⟨by omega, ?_⟩
    rw [show i - n = (i - (n + 1)) + 1 by omega]
    simpa using h2
  | some x :: l, n, i, v, h => by
    rcases List.mem_cons.mp h with e | h
    · cases e
      refine ⟨Nat.le_refl _, ?_⟩
      rw [Nat.sub_self]
      rfl
    · obtain ⟨h1, h2⟩ := ps_pairs_of l (n + 1) i v h
      refine ⟨by omega, ?_⟩
      rw [show i - n = (i - (n + 1)) + 1 by omega]
      simpa using h2
theorem ps_lv_has {ls : Array Slot} {n : Nat} {lv : List (Option Value)} (h : ps_lv ls n lv) : lv_has ls n (ps_pairs 0 lv) := ⟨h.2.1, h.2.2.1, fun q hq => by
  have := ps_pairs_of lv 0 q.1 q.2 hq
  exact h.2.2.2 q.1 q.2 (by simpa using this.2)⟩
theorem ps_lv_of {ls : Array Slot} {n : Nat} {lv : List (Option Value)} (hl : lv.length = n) (h : lv_has ls n (ps_pairs 0 lv)) : ps_lv ls n lv := ⟨hl, h.1, h.2.1, fun i v hv => by
  have := ps_pairs_in lv 0 i v hv
  rw [Nat.zero_add] at this
  exact h.2.2 (i, v) this⟩
/-- not a long: its second half isn't the next place -/
def ps_n2 (x : Option Value) : Bool := match x with
  | some v => v.category == 1
  | none => true
theorem ps_lv_set {ls ls' : Array Slot} {n i : Nat} {lv : List (Option Value)} {v : Value} (h : ps_lv ls n lv) (hi : i < n) (hp : ∀ x, 0 < i → lv[i - 1]? = some x → ps_n2 x = true)
    (h' : lv_has ls' n ((i, v) :: (ps_pairs 0 lv).filter (fun q => !(q.1 == i) && !(q.1 + 1 == i && q.2.category == 2)))) : ps_lv ls' n (lv.set i (some v)) := by
  refine ⟨by rw [List.length_set]; exact h.1, h'.1, h'.2.1, fun j w hw => ?_⟩
  by_cases hj : j = i
  · subst hj
    rw [List.getElem?_set_self (by rw [h.1]; exact hi)] at hw
    cases hw
    exact h'.2.2 (j, v) List.mem_cons_self
  · rw [List.getElem?_set_ne (Ne.symm hj)] at hw
    have hm := ps_pairs_in lv 0 j w hw
    rw [Nat.zero_add] at hm
    refine h'.2.2 (j, w) (List.mem_cons_of_mem _ (List.mem_filter.mpr ⟨hm, ?_⟩))
    have e1 : (j == i) = false := by simpa using hj
    simp only [e1, Bool.not_false, Bool.true_and, Bool.not_eq_true', Bool.and_eq_false_iff]
    by_cases h2 : j + 1 = i
    · refine Or.inr ?_
      have hx := hp (some w) (by omega) (by rw [show i - 1 = j by omega]; exact hw)
      have h3 : w.category = 1 := by simpa [ps_n2] using hx
      simp [h3]
    · exact Or.inl (by simpa using h2)
theorem ps_lv_set2 {ls ls' : Array Slot} {n i : Nat} {lv : List (Option Value)} {v : Value} (h : ps_lv ls n lv) (hi : i + 1 < n) (hp : ∀ x, 0 < i → lv[i - 1]? = some x → ps_n2 x = true)
    (h' : lv_has ls' n ((i, v) :: (ps_pairs 0 lv).filter (fun q => !(q.1 == i) && (!(q.1 == i + 1) && !(q.1 + 1 == i && q.2.category == 2))))) : ps_lv ls' n ((lv.set i (some v)).set (i + 1) none) := by
  refine ⟨by rw [List.length_set, List.length_set]; exact h.1, h'.1, h'.2.1, fun j w hw => ?_⟩
  by_cases hj2 : j = i + 1
  · subst hj2
    rw [List.getElem?_set_self (by rw [List.length_set, h.1]; exact hi)] at hw
    cases hw
  rw [List.getElem?_set_ne (Ne.symm hj2)] at hw
  by_cases hj : j = i
  · subst hj
    rw [List.getElem?_set_self (by rw [h.1]; omega)] at hw
    cases hw
    exact h'.2.2 (j, v) List.mem_cons_self
  · rw [List.getElem?_set_ne (Ne.symm hj)] at hw
    have hm := ps_pairs_in lv 0 j w hw
    rw [Nat.zero_add] at hm
    refine h'.2.2 (j, w) (List.mem_cons_of_mem _ (List.mem_filter.mpr ⟨hm, ?_⟩))
    have e1 : (j == i) = false := by simpa using hj
    have e2 : (j == i + 1) = false := by simpa using hj2
    simp only [e1, e2, Bool.not_false, Bool.true_and, Bool.not_eq_true', Bool.and_eq_false_iff]
    by_cases h2 : j + 1 = i
    · refine Or.inr ?_
      have hx := hp (some w) (by omega) (by rw [show i - 1 = j by omega]; exact hw)
      have h3 : w.category = 1 := by simpa [ps_n2] using hx
      simp [h3]
    · exact Or.inl (by simpa using h2)
/-- fewer locals are known -/
def ps_le : List (Option Value) → List (Option Value) → Prop
  | [], [] => True
  | none :: a, _ :: b => ps_le a b
  | some v :: a, x :: b => x = some v ∧ ps_le a b
  | _, _ => False
theorem ps_le_at : ∀ (a b : List (Option Value)), ps_le a b → a.length = b.length ∧ ∀ (i : Nat) (v : Value), a[i]? = some (some v) → b[i]? = some (some v)
  | [], [], _ => ⟨rfl, fun i v h => by simp at h⟩
  | none :: a, x :: b, h => by
    obtain ⟨h1, h2⟩ := ps_le_at a b h
    refine ⟨by simp [h1], fun i v hv => ?_⟩
    cases i with
    | zero => simp at hv
    | succ i => simpa using h2 i v (by simpa using hv)
  | some w :: a, x :: b, h => by
    obtain ⟨h1, h2⟩ := ps_le_at a b h.2
    refine ⟨by simp [h1], fun i v hv => ?_⟩
    cases i with
    | zero => rw [h.1]; simpa using hv
    | succ i => simpa using h2 i v (by simpa using hv)
  | [], _ :: _, h => h.elim
theorem ps_wk {X : ps_X} {M : ps_M} {pc : Nat} {lv lv' : List (Option Value)} {stk : List Value} (h : ps_le lv' lv) (k : ps_G X M pc lv' stk) : ps_G X M pc lv stk := fun H locs ls hP hR hS hl => by
  obtain ⟨h1, h2⟩ := ps_le_at lv' lv h
  exact k H locs ls hP hR hS ⟨h1.trans hl.1, hl.2.1, hl.2.2.1, fun i v hv => hl.2.2.2 i v (h2 i v hv)⟩

theorem ps_iconst {X : ps_X} {own : String} {cc : ByteArray} (C : ps_C X own cc) {M : ps_M} {pc : Nat} {lv : List (Option Value)} {stk : List Value} {n : Int} {v : Int32} (hd : decode cc pc = .ok (.iconst n, 1)) (hv : Int32.ofInt n = v) (k : ps_G X M (pc + 1) lv (.int v :: stk)) : ps_G X M pc lv stk := fun H locs ls hP hR hS hl => lv_iconst C.1 C.2.1 hd hv (k H locs ls hP hR hS hl)
theorem ps_bipush {X : ps_X} {own : String} {cc : ByteArray} (C : ps_C X own cc) {M : ps_M} {pc : Nat} {lv : List (Option Value)} {stk : List Value} {n : Int} {v : Int32} (hd : decode cc pc = .ok (.bipush n, 2)) (hv : (Int8.ofInt n).toInt32 = v) (k : ps_G X M (pc + 2) lv (.int v :: stk)) : ps_G X M pc lv stk := fun H locs ls hP hR hS hl => lv_bipush C.1 C.2.1 hd hv (k H locs ls hP hR hS hl)
theorem ps_sipush {X : ps_X} {own : String} {cc : ByteArray} (C : ps_C X own cc) {M : ps_M} {pc : Nat} {lv : List (Option Value)} {stk : List Value} {n : Int} {v : Int32} (hd : decode cc pc = .ok (.sipush n, 3)) (hv : (Int16.ofInt n).toInt32 = v) (k : ps_G X M (pc + 3) lv (.int v :: stk)) : ps_G X M pc lv stk := fun H locs ls hP hR hS hl => lv_sipush C.1 C.2.1 hd hv (k H locs ls hP hR hS hl)
theorem ps_lconst {X : ps_X} {own : String} {cc : ByteArray} (C : ps_C X own cc) {M : ps_M} {pc : Nat} {lv : List (Option Value)} {stk : List Value} {n : Fin 2} {v : Int64} (hd : decode cc pc = .ok (.lconst n, 1)) (hv : Int64.ofNat (n : Nat) = v) (k : ps_G X M (pc + 1) lv (.long v :: stk)) : ps_G X M pc lv stk := fun H locs ls hP hR hS hl => lv_lconst C.1 C.2.1 hd hv (k H locs ls hP hR hS hl)
theorem ps_ldc2 {X : ps_X} {own : String} {cc : ByteArray} (C : ps_C X own cc) {M : ps_M} {pc : Nat} {lv : List (Option Value)} {stk : List Value} {i : Nat} {v : Int64} (hm : Jvm.Cond.constantLong own i v ∈ ps_T) (hd : decode cc pc = .ok (.ldc2_w i, 3)) (k : ps_G X M (pc + 3) lv (.long v :: stk)) : ps_G X M pc lv stk := fun H locs ls hP hR hS hl => lv_ldc2 C.1 C.2.1 C.2.2.2.1 (C.2.2.2.2.1 _ hm) hd (k H locs ls hP hR hS hl)
theorem ps_ldcw {X : ps_X} {own : String} {cc : ByteArray} (C : ps_C X own cc) {M : ps_M} {pc : Nat} {lv : List (Option Value)} {stk : List Value} {i : Nat} {v : Int32} (hm : Jvm.Cond.constant own i v ∈ ps_T) (hd : decode cc pc = .ok (.ldc_w i, 3)) (k : ps_G X M (pc + 3) lv (.int v :: stk)) : ps_G X M pc lv stk := fun H locs ls hP hR hS hl => lv_ldcw C.1 C.2.1 C.2.2.2.1 (C.2.2.2.2.1 _ hm) hd (k H locs ls hP hR hS hl)
theorem ps_iadd {X : ps_X} {own : String} {cc : ByteArray} (C : ps_C X own cc) {M : ps_M} {pc : Nat} {lv : List (Option Value)} {stk : List Value} {x y : Int32} (hd : decode cc pc = .ok (.iadd, 1)) (k : ps_G X M (pc + 1) lv (.int (x + y) :: stk)) : ps_G X M pc lv (.int y :: .int x :: stk) := fun H locs ls hP hR hS hl => lv_iadd C.1 C.2.1 hd  (k H locs ls hP hR hS hl)
theorem ps_isub {X : ps_X} {own : String} {cc : ByteArray} (C : ps_C X own cc) {M : ps_M} {pc : Nat} {lv : List (Option Value)} {stk : List Value} {x y : Int32} (hd : decode cc pc = .ok (.isub, 1)) (k : ps_G X M (pc + 1) lv (.int (x - y) :: stk)) : ps_G X M pc lv (.int y :: .int x :: stk) := fun H locs ls hP hR hS hl => lv_isub C.1 C.2.1 hd  (k H locs ls hP hR hS hl)
theorem ps_imul {X : ps_X} {own : String} {cc : ByteArray} (C : ps_C X own cc) {M : ps_M} {pc : Nat} {lv : List (Option Value)} {stk : List Value} {x y : Int32} (hd : decode cc pc = .ok (.imul, 1)) (k : ps_G X M (pc + 1) lv (.int (x * y) :: stk)) : ps_G X M pc lv (.int y :: .int x :: stk) := fun H locs ls hP hR hS hl => lv_imul C.1 C.2.1 hd  (k H locs ls hP hR hS hl)
theorem ps_iand {X : ps_X} {own : String} {cc : ByteArray} (C : ps_C X own cc) {M : ps_M} {pc : Nat} {lv : List (Option Value)} {stk : List Value} {x y : Int32} (hd : decode cc pc = .ok (.iand, 1)) (k : ps_G X M (pc + 1) lv (.int (x &&& y) :: stk)) : ps_G X M pc lv (.int y :: .int x :: stk) := fun H locs ls hP hR hS hl => lv_iand C.1 C.2.1 hd  (k H locs ls hP hR hS hl)
theorem ps_ior {X : ps_X} {own : String} {cc : ByteArray} (C : ps_C X own cc) {M : ps_M} {pc : Nat} {lv : List (Option Value)} {stk : List Value} {x y : Int32} (hd : decode cc pc = .ok (.ior, 1)) (k : ps_G X M (pc + 1) lv (.int (x ||| y) :: stk)) : ps_G X M pc lv (.int y :: .int x :: stk) := fun H locs ls hP hR hS hl => lv_ior C.1 C.2.1 hd  (k H locs ls hP hR hS hl)
theorem ps_land {X : ps_X} {own : String} {cc : ByteArray} (C : ps_C X own cc) {M : ps_M} {pc : Nat} {lv : List (Option Value)} {stk : List Value} {x y : Int64} (hd : decode cc pc = .ok (.land, 1)) (k : ps_G X M (pc + 1) lv (.long (x &&& y) :: stk)) : ps_G X M pc lv (.long y :: .long x :: stk) := fun H locs ls hP hR hS hl => lv_land C.1 C.2.1 hd  (k H locs ls hP hR hS hl)
theorem ps_lor {X : ps_X} {own : String} {cc : ByteArray} (C : ps_C X own cc) {M : ps_M} {pc : Nat} {lv : List (Option Value)} {stk : List Value} {x y : Int64} (hd : decode cc pc = .ok (.lor, 1)) (k : ps_G X M (pc + 1) lv (.long (x ||| y) :: stk)) : ps_G X M pc lv (.long y :: .long x :: stk) := fun H locs ls hP hR hS hl => lv_lor C.1 C.2.1 hd  (k H locs ls hP hR hS hl)
theorem ps_idiv {X : ps_X} {own : String} {cc : ByteArray} (C : ps_C X own cc) {M : ps_M} {pc : Nat} {lv : List (Option Value)} {stk : List Value} {x y : Int32} (hz : ¬ y = 0) (hd : decode cc pc = .ok (.idiv, 1)) (k : ps_G X M (pc + 1) lv (.int (x / y) :: stk)) : ps_G X M pc lv (.int y :: .int x :: stk) := fun H locs ls hP hR hS hl => lv_idiv C.1 C.2.1 hd hz (k H locs ls hP hR hS hl)
theorem ps_irem {X : ps_X} {own : String} {cc : ByteArray} (C : ps_C X own cc) {M : ps_M} {pc : Nat} {lv : List (Option Value)} {stk : List Value} {x y : Int32} (hz : ¬ y = 0) (hd : decode cc pc = .ok (.irem, 1)) (k : ps_G X M (pc + 1) lv (.int (x - x / y * y) :: stk)) : ps_G X M pc lv (.int y :: .int x :: stk) := fun H locs ls hP hR hS hl => lv_irem C.1 C.2.1 hd hz (k H locs ls hP hR hS hl)
theorem ps_ishl {X : ps_X} {own : String} {cc : ByteArray} (C : ps_C X own cc) {M : ps_M} {pc : Nat} {lv : List (Option Value)} {stk : List Value} {x y : Int32} (hd : decode cc pc = .ok (.ishl, 1)) (k : ps_G X M (pc + 1) lv (.int (x <<< (y &&& 31)) :: stk)) : ps_G X M pc lv (.int y :: .int x :: stk) := fun H locs ls hP hR hS hl => lv_ishl C.1 C.2.1 hd  (k H locs ls hP hR hS hl)
theorem ps_ishr {X : ps_X} {own : String} {cc : ByteArray} (C : ps_C X own cc) {M : ps_M} {pc : Nat} {lv : List (Option Value)} {stk : List Value} {x y : Int32} (hd : decode cc pc = .ok (.ishr, 1)) (k : ps_G X M (pc + 1) lv (.int (x >>> (y &&& 31)) :: stk)) : ps_G X M pc lv (.int y :: .int x :: stk) := fun H locs ls hP hR hS hl => lv_ishr C.1 C.2.1 hd  (k H locs ls hP hR hS hl)
theorem ps_iushr {X : ps_X} {own : String} {cc : ByteArray} (C : ps_C X own cc) {M : ps_M} {pc : Nat} {lv : List (Option Value)} {stk : List Value} {x y : Int32} (hd : decode cc pc = .ok (.iushr, 1)) (k : ps_G X M (pc + 1) lv (.int ((x.toUInt32 >>> (y.toUInt32 &&& Int32.toUInt32 31)).toInt32) :: stk)) : ps_G X M pc lv (.int y :: .int x :: stk) := fun H locs ls hP hR hS hl => lv_iushr C.1 C.2.1 hd rfl (k H locs ls hP hR hS hl)
theorem ps_lushr {X : ps_X} {own : String} {cc : ByteArray} (C : ps_C X own cc) {M : ps_M} {pc : Nat} {lv : List (Option Value)} {stk : List Value} {x : Int64} {y : Int32} (hd : decode cc pc = .ok (.lushr, 1)) (k : ps_G X M (pc + 1) lv (.long ((x.toUInt64 >>> (y.toInt64.toUInt64 &&& Int64.toUInt64 63)).toInt64) :: stk)) : ps_G X M pc lv (.int y :: .long x :: stk) := fun H locs ls hP hR hS hl => lv_lushr C.1 C.2.1 hd rfl (k H locs ls hP hR hS hl)
theorem ps_lshl {X : ps_X} {own : String} {cc : ByteArray} (C : ps_C X own cc) {M : ps_M} {pc : Nat} {lv : List (Option Value)} {stk : List Value} {x : Int64} {y : Int32} (hd : decode cc pc = .ok (.lshl, 1)) (k : ps_G X M (pc + 1) lv (.long (x <<< (y.toInt64 &&& 63)) :: stk)) : ps_G X M pc lv (.int y :: .long x :: stk) := fun H locs ls hP hR hS hl => lv_lshl C.1 C.2.1 hd rfl (k H locs ls hP hR hS hl)
theorem ps_i2l {X : ps_X} {own : String} {cc : ByteArray} (C : ps_C X own cc) {M : ps_M} {pc : Nat} {lv : List (Option Value)} {stk : List Value} {x : Int32} (hd : decode cc pc = .ok (.i2l, 1)) (k : ps_G X M (pc + 1) lv (.long x.toInt64 :: stk)) : ps_G X M pc lv (.int x :: stk) := fun H locs ls hP hR hS hl => lv_i2l C.1 C.2.1 hd rfl (k H locs ls hP hR hS hl)
theorem ps_l2i {X : ps_X} {own : String} {cc : ByteArray} (C : ps_C X own cc) {M : ps_M} {pc : Nat} {lv : List (Option Value)} {stk : List Value} {x : Int64} (hd : decode cc pc = .ok (.l2i, 1)) (k : ps_G X M (pc + 1) lv (.int x.toInt32 :: stk)) : ps_G X M pc lv (.long x :: stk) := fun H locs ls hP hR hS hl => lv_l2i C.1 C.2.1 hd rfl (k H locs ls hP hR hS hl)
theorem ps_i2c {X : ps_X} {own : String} {cc : ByteArray} (C : ps_C X own cc) {M : ps_M} {pc : Nat} {lv : List (Option Value)} {stk : List Value} {x : Int32} (hd : decode cc pc = .ok (.i2c, 1)) (k : ps_G X M (pc + 1) lv (.int (x.toUInt32 % 65536).toInt32 :: stk)) : ps_G X M pc lv (.int x :: stk) := fun H locs ls hP hR hS hl => lv_i2c C.1 C.2.1 hd rfl (k H locs ls hP hR hS hl)
theorem ps_lcmp {X : ps_X} {own : String} {cc : ByteArray} (C : ps_C X own cc) {M : ps_M} {pc : Nat} {lv : List (Option Value)} {stk : List Value} {x y : Int64} (hd : decode cc pc = .ok (.lcmp, 1)) (k : ps_G X M (pc + 1) lv (.int (lg_cmp x y) :: stk)) : ps_G X M pc lv (.long y :: .long x :: stk) := fun H locs ls hP hR hS hl => W.lcmp C.1 C.2.1 hd  (k H locs ls hP hR hS hl)
theorem ps_dup {X : ps_X} {own : String} {cc : ByteArray} (C : ps_C X own cc) {M : ps_M} {pc : Nat} {lv : List (Option Value)} {stk : List Value} {v : Value} (hc : v.category = 1) (hd : decode cc pc = .ok (.dup, 1)) (k : ps_G X M (pc + 1) lv (v :: v :: stk)) : ps_G X M pc lv (v :: stk) := fun H locs ls hP hR hS hl => lv_dup C.1 C.2.1 hd hc (k H locs ls hP hR hS hl)
theorem ps_pop {X : ps_X} {own : String} {cc : ByteArray} (C : ps_C X own cc) {M : ps_M} {pc : Nat} {lv : List (Option Value)} {stk : List Value} {v : Value} (hc : v.category = 1) (hd : decode cc pc = .ok (.pop, 1)) (k : ps_G X M (pc + 1) lv (stk)) : ps_G X M pc lv (v :: stk) := fun H locs ls hP hR hS hl => lv_pop C.1 C.2.1 hd hc (k H locs ls hP hR hS hl)
theorem ps_dup2 {X : ps_X} {own : String} {cc : ByteArray} (C : ps_C X own cc) {M : ps_M} {pc : Nat} {lv : List (Option Value)} {stk : List Value} {v u : Value} (hc : v.category = 1) (hu : u.category = 1) (hd : decode cc pc = .ok (.dup2, 1)) (k : ps_G X M (pc + 1) lv (v :: u :: v :: u :: stk)) : ps_G X M pc lv (v :: u :: stk) := fun H locs ls hP hR hS hl => lv_dup2_11 C.1 C.2.1 hd hc hu (k H locs ls hP hR hS hl)
theorem ps_ic_eq {X : ps_X} {own : String} {cc : ByteArray} (C : ps_C X own cc) {M : ps_M} {pc : Nat} {lv : List (Option Value)} {stk : List Value} {x y : Int32} {off : Int} (tgt : Nat) (hd : decode cc pc = .ok (.if_icmp .eq off, 3)) (ht : (pc : Int) + off = (tgt : Int)) (kt : x = y → ps_G X M tgt lv stk) (kf : ¬ (x = y) → ps_G X M (pc + 3) lv stk) : ps_G X M pc lv (.int y :: .int x :: stk) := fun H locs ls hP hR hS hl => lv_icmp_eq C.1 C.2.1 hd ht (fun c => kt c H locs ls hP hR hS hl) (fun c => kf c H locs ls hP hR hS hl)
theorem ps_if_eq {X : ps_X} {own : String} {cc : ByteArray} (C : ps_C X own cc) {M : ps_M} {pc : Nat} {lv : List (Option Value)} {stk : List Value} {x : Int32} {off : Int} (tgt : Nat) (hd : decode cc pc = .ok (.ifCond .eq off, 3)) (ht : (pc : Int) + off = (tgt : Int)) (kt : x = 0 → ps_G X M tgt lv stk) (kf : ¬ (x = 0) → ps_G X M (pc + 3) lv stk) : ps_G X M pc lv (.int x :: stk) := fun H locs ls hP hR hS hl => lv_if_eq C.1 C.2.1 hd ht (fun c => kt c H locs ls hP hR hS hl) (fun c => kf c H locs ls hP hR hS hl)
theorem ps_ic_ne {X : ps_X} {own : String} {cc : ByteArray} (C : ps_C X own cc) {M : ps_M} {pc : Nat} {lv : List (Option Value)} {stk : List Value} {x y : Int32} {off : Int} (tgt : Nat) (hd : decode cc pc = .ok (.if_icmp .ne off, 3)) (ht : (pc : Int) + off = (tgt : Int)) (kt : ¬ x = y → ps_G X M tgt lv stk) (kf : x = y → ps_G X M (pc + 3) lv stk) : ps_G X M pc lv (.int y :: .int x :: stk) := fun H locs ls hP hR hS hl => lv_icmp_ne C.1 C.2.1 hd ht (fun c => kt c H locs ls hP hR hS hl) (fun c => kf c H locs ls hP hR hS hl)
theorem ps_if_ne {X : ps_X} {own : String} {cc : ByteArray} (C : ps_C X own cc) {M : ps_M} {pc : Nat} {lv : List (Option Value)} {stk : List Value} {x : Int32} {off : Int} (tgt : Nat) (hd : decode cc pc = .ok (.ifCond .ne off, 3)) (ht : (pc : Int) + off = (tgt : Int)) (kt : ¬ x = 0 → ps_G X M tgt lv stk) (kf : x = 0 → ps_G X M (pc + 3) lv stk) : ps_G X M pc lv (.int x :: stk) := fun H locs ls hP hR hS hl => lv_if_ne C.1 C.2.1 hd ht (fun c => kt c H locs ls hP hR hS hl) (fun c => kf c H locs ls hP hR hS hl)
theorem ps_ic_lt {X : ps_X} {own : String} {cc : ByteArray} (C : ps_C X own cc) {M : ps_M} {pc : Nat} {lv : List (Option Value)} {stk : List Value} {x y : Int32} {off : Int} (tgt : Nat) (hd : decode cc pc = .ok (.if_icmp .lt off, 3)) (ht : (pc : Int) + off = (tgt : Int)) (kt : x < y → ps_G X M tgt lv stk) (kf : ¬ (x < y) → ps_G X M (pc + 3) lv stk) : ps_G X M pc lv (.int y :: .int x :: stk) := fun H locs ls hP hR hS hl => lv_icmp_lt C.1 C.2.1 hd ht (fun c => kt c H locs ls hP hR hS hl) (fun c => kf c H locs ls hP hR hS hl)
theorem ps_if_lt {X : ps_X} {own : String} {cc : ByteArray} (C : ps_C X own cc) {M : ps_M} {pc : Nat} {lv : List (Option Value)} {stk : List Value} {x : Int32} {off : Int} (tgt : Nat) (hd : decode cc pc = .ok (.ifCond .lt off, 3)) (ht : (pc : Int) + off = (tgt : Int)) (kt : x < 0 → ps_G X M tgt lv stk) (kf : ¬ (x < 0) → ps_G X M (pc + 3) lv stk) : ps_G X M pc lv (.int x :: stk) := fun H locs ls hP hR hS hl => lv_if_lt C.1 C.2.1 hd ht (fun c => kt c H locs ls hP hR hS hl) (fun c => kf c H locs ls hP hR hS hl)
theorem ps_ic_ge {X : ps_X} {own : String} {cc : ByteArray} (C : ps_C X own cc) {M : ps_M} {pc : Nat} {lv : List (Option Value)} {stk : List Value} {x y : Int32} {off : Int} (tgt : Nat) (hd : decode cc pc = .ok (.if_icmp .ge off, 3)) (ht : (pc : Int) + off = (tgt : Int)) (kt : y ≤ x → ps_G X M tgt lv stk) (kf : ¬ (y ≤ x) → ps_G X M (pc + 3) lv stk) : ps_G X M pc lv (.int y :: .int x :: stk) := fun H locs ls hP hR hS hl => lv_icmp_ge C.1 C.2.1 hd ht (fun c => kt c H locs ls hP hR hS hl) (fun c => kf c H locs ls hP hR hS hl)
theorem ps_if_ge {X : ps_X} {own : String} {cc : ByteArray} (C : ps_C X own cc) {M : ps_M} {pc : Nat} {lv : List (Option Value)} {stk : List Value} {x : Int32} {off : Int} (tgt : Nat) (hd : decode cc pc = .ok (.ifCond .ge off, 3)) (ht : (pc : Int) + off = (tgt : Int)) (kt : 0 ≤ x → ps_G X M tgt lv stk) (kf : ¬ (0 ≤ x) → ps_G X M (pc + 3) lv stk) : ps_G X M pc lv (.int x :: stk) := fun H locs ls hP hR hS hl => lv_if_ge C.1 C.2.1 hd ht (fun c => kt c H locs ls hP hR hS hl) (fun c => kf c H locs ls hP hR hS hl)
theorem ps_ic_gt {X : ps_X} {own : String} {cc : ByteArray} (C : ps_C X own cc) {M : ps_M} {pc : Nat} {lv : List (Option Value)} {stk : List Value} {x y : Int32} {off : Int} (tgt : Nat) (hd : decode cc pc = .ok (.if_icmp .gt off, 3)) (ht : (pc : Int) + off = (tgt : Int)) (kt : y < x → ps_G X M tgt lv stk) (kf : ¬ (y < x) → ps_G X M (pc + 3) lv stk) : ps_G X M pc lv (.int y :: .int x :: stk) := fun H locs ls hP hR hS hl => lv_icmp_gt C.1 C.2.1 hd ht (fun c => kt c H locs ls hP hR hS hl) (fun c => kf c H locs ls hP hR hS hl)
theorem ps_if_gt {X : ps_X} {own : String} {cc : ByteArray} (C : ps_C X own cc) {M : ps_M} {pc : Nat} {lv : List (Option Value)} {stk : List Value} {x : Int32} {off : Int} (tgt : Nat) (hd : decode cc pc = .ok (.ifCond .gt off, 3)) (ht : (pc : Int) + off = (tgt : Int)) (kt : 0 < x → ps_G X M tgt lv stk) (kf : ¬ (0 < x) → ps_G X M (pc + 3) lv stk) : ps_G X M pc lv (.int x :: stk) := fun H locs ls hP hR hS hl => lv_if_gt C.1 C.2.1 hd ht (fun c => kt c H locs ls hP hR hS hl) (fun c => kf c H locs ls hP hR hS hl)
theorem ps_ic_le {X : ps_X} {own : String} {cc : ByteArray} (C : ps_C X own cc) {M : ps_M} {pc : Nat} {lv : List (Option Value)} {stk : List Value} {x y : Int32} {off : Int} (tgt : Nat) (hd : decode cc pc = .ok (.if_icmp .le off, 3)) (ht : (pc : Int) + off = (tgt : Int)) (kt : x ≤ y → ps_G X M tgt lv stk) (kf : ¬ (x ≤ y) → ps_G X M (pc + 3) lv stk) : ps_G X M pc lv (.int y :: .int x :: stk) := fun H locs ls hP hR hS hl => lv_icmp_le C.1 C.2.1 hd ht (fun c => kt c H locs ls hP hR hS hl) (fun c => kf c H locs ls hP hR hS hl)
theorem ps_if_le {X : ps_X} {own : String} {cc : ByteArray} (C : ps_C X own cc) {M : ps_M} {pc : Nat} {lv : List (Option Value)} {stk : List Value} {x : Int32} {off : Int} (tgt : Nat) (hd : decode cc pc = .ok (.ifCond .le off, 3)) (ht : (pc : Int) + off = (tgt : Int)) (kt : x ≤ 0 → ps_G X M tgt lv stk) (kf : ¬ (x ≤ 0) → ps_G X M (pc + 3) lv stk) : ps_G X M pc lv (.int x :: stk) := fun H locs ls hP hR hS hl => lv_if_le C.1 C.2.1 hd ht (fun c => kt c H locs ls hP hR hS hl) (fun c => kf c H locs ls hP hR hS hl)
theorem ps_goto {X : ps_X} {own : String} {cc : ByteArray} (C : ps_C X own cc) {M : ps_M} {pc : Nat} {lv : List (Option Value)} {stk : List Value} {off : Int} (tgt : Nat) (hd : decode cc pc = .ok (.goto off, 3)) (ht : (pc : Int) + off = (tgt : Int)) (k : ps_G X M tgt lv stk) : ps_G X M pc lv stk := fun H locs ls hP hR hS hl => lv_goto C.1 C.2.1 hd ht (k H locs ls hP hR hS hl)
theorem ps_tabO {X : ps_X} {own : String} {cc : ByteArray} (C : ps_C X own cc) {M : ps_M} {pc : Nat} {lv : List (Option Value)} {stk : List Value} {x : Int32} {dflt lo hi : Int} {offs : Array Int} {len : Nat} (tgt : Nat) (hd : decode cc pc = .ok (.tableswitch dflt lo hi offs, len)) (h : x.toInt < lo ∨ hi < x.toInt) (ht : (pc : Int) + dflt = (tgt : Int)) (k : ps_G X M tgt lv stk) : ps_G X M pc lv (.int x :: stk) := fun H locs ls hP hR hS hl => lv_tableOut C.1 C.2.1 hd h ht (k H locs ls hP hR hS hl)
theorem ps_tabI {X : ps_X} {own : String} {cc : ByteArray} (C : ps_C X own cc) {M : ps_M} {pc : Nat} {lv : List (Option Value)} {stk : List Value} {x : Int32} (z : Int) (hz : x.toInt = z) {dflt lo hi off : Int} {offs : Array Int} {len : Nat} (tgt : Nat) (hd : decode cc pc = .ok (.tableswitch dflt lo hi offs, len)) (h1 : ¬ z < lo) (h2 : ¬ hi < z) (ho : offs[(z - lo).toNat]? = some off) (ht : (pc : Int) + off = (tgt : Int)) (k : ps_G X M tgt lv stk) : ps_G X M pc lv (.int x :: stk) := fun H locs ls hP hR hS hl => lv_tableIn C.1 C.2.1 hd (by rw [hz]; exact h1) (by rw [hz]; exact h2) (by rw [hz]; exact ho) ht (k H locs ls hP hR hS hl)
theorem ps_look {X : ps_X} {own : String} {cc : ByteArray} (C : ps_C X own cc) {M : ps_M} {pc : Nat} {lv : List (Option Value)} {stk : List Value} {x : Int32} {dflt : Int} {qs : Array (Int × Int)} {len : Nat} {off : Int} (tgt : Nat) (hd : decode cc pc = .ok (.lookupswitch dflt qs, len)) (hp : (qs.toList.zip (qs.toList.drop 1)).all (fun (a, next) => a.1 < next.1) = true) (ho : Op.lookupswitch.offset qs.toList dflt x.toInt = off) (ht : (pc : Int) + off = (tgt : Int)) (k : ps_G X M tgt lv stk) : ps_G X M pc lv (.int x :: stk) := fun H locs ls hP hR hS hl => lv_lookup C.1 C.2.1 hd hp ho ht (k H locs ls hP hR hS hl)
theorem ps_iloadn0 {X : ps_X} {own : String} {cc : ByteArray} (C : ps_C X own cc) {M : ps_M} {pc : Nat} {l : List (Option Value)} {stk : List Value} {x : Int32} (hd : decode cc pc = .ok (.iload_n 0, 1)) (k : ps_G X M (pc + 1) (some (.int x) :: l) (.int x :: stk)) : ps_G X M pc (some (.int x) :: l) stk := fun H locs ls hP hR hS hl => lv_iload_n C.1 C.2.1 hd rfl (hl.2.2.2 0 _ rfl) (k H locs ls hP hR hS hl)
theorem ps_iload0 {X : ps_X} {own : String} {cc : ByteArray} (C : ps_C X own cc) {M : ps_M} {pc : Nat} {l : List (Option Value)} {stk : List Value} {x : Int32} (hd : decode cc pc = .ok (.iload 0, 2)) (k : ps_G X M (pc + 2) (some (.int x) :: l) (.int x :: stk)) : ps_G X M pc (some (.int x) :: l) stk := fun H locs ls hP hR hS hl => lv_iload C.1 C.2.1 hd (hl.2.2.2 0 _ rfl) (k H locs ls hP hR hS hl)
theorem ps_istoren0 {X : ps_X} {own : String} {cc : ByteArray} (C : ps_C X own cc) {M : ps_M} {pc : Nat} {l : List (Option Value)} {stk : List Value} {z : Option Value} {x : Int32} (hd : decode cc pc = .ok (.istore_n 0, 1)) (k : ps_G X M (pc + 1) (some (.int x) :: l) stk) : ps_G X M pc (z :: l) (.int x :: stk) := fun H locs ls hP hR hS hl => lv_istore_n C.1 C.2.1 hd rfl (ps_lv_has hl) (by have := hl.1; simp only [List.length_cons] at this; omega) rfl (fun ls1 hl1 => k H locs ls1 hP hR hS (ps_lv_set hl (by have := hl.1; simp only [List.length_cons] at this; omega) (fun x h0 hx => absurd h0 (Nat.lt_irrefl _)) hl1))
theorem ps_istore0 {X : ps_X} {own : String} {cc : ByteArray} (C : ps_C X own cc) {M : ps_M} {pc : Nat} {l : List (Option Value)} {stk : List Value} {z : Option Value} {x : Int32} (hd : decode cc pc = .ok (.istore 0, 2)) (k : ps_G X M (pc + 2) (some (.int x) :: l) stk) : ps_G X M pc (z :: l) (.int x :: stk) := fun H locs ls hP hR hS hl => lv_istore C.1 C.2.1 hd (ps_lv_has hl) (by have := hl.1; simp only [List.length_cons] at this; omega) rfl (fun ls1 hl1 => k H locs ls1 hP hR hS (ps_lv_set hl (by have := hl.1; simp only [List.length_cons] at this; omega) (fun x h0 hx => absurd h0 (Nat.lt_irrefl _)) hl1))
theorem ps_aloadn0 {X : ps_X} {own : String} {cc : ByteArray} (C : ps_C X own cc) {M : ps_M} {pc : Nat} {l : List (Option Value)} {stk : List Value} {x : Nat} (hd : decode cc pc = .ok (.aload_n 0, 1)) (k : ps_G X M (pc + 1) (some (.ref x) :: l) (.ref x :: stk)) : ps_G X M pc (some (.ref x) :: l) stk := fun H locs ls hP hR hS hl => lv_aload_n C.1 C.2.1 hd rfl (hl.2.2.2 0 _ rfl) (k H locs ls hP hR hS hl)
theorem ps_aload0 {X : ps_X} {own : String} {cc : ByteArray} (C : ps_C X own cc) {M : ps_M} {pc : Nat} {l : List (Option Value)} {stk : List Value} {x : Nat} (hd : decode cc pc = .ok (.aload 0, 2)) (k : ps_G X M (pc + 2) (some (.ref x) :: l) (.ref x :: stk)) : ps_G X M pc (some (.ref x) :: l) stk := fun H locs ls hP hR hS hl => lv_aload C.1 C.2.1 hd (hl.2.2.2 0 _ rfl) (k H locs ls hP hR hS hl)
theorem ps_astoren0 {X : ps_X} {own : String} {cc : ByteArray} (C : ps_C X own cc) {M : ps_M} {pc : Nat} {l : List (Option Value)} {stk : List Value} {z : Option Value} {x : Nat} (hd : decode cc pc = .ok (.astore_n 0, 1)) (k : ps_G X M (pc + 1) (some (.ref x) :: l) stk) : ps_G X M pc (z :: l) (.ref x :: stk) := fun H locs ls hP hR hS hl => lv_astore_n C.1 C.2.1 hd rfl (ps_lv_has hl) (by have := hl.1; simp only [List.length_cons] at this; omega) rfl (fun ls1 hl1 => k H locs ls1 hP hR hS (ps_lv_set hl (by have := hl.1; simp only [List.length_cons] at this; omega) (fun x h0 hx => absurd h0 (Nat.lt_irrefl _)) hl1))
theorem ps_astore0 {X : ps_X} {own : String} {cc : ByteArray} (C : ps_C X own cc) {M : ps_M} {pc : Nat} {l : List (Option Value)} {stk : List Value} {z : Option Value} {x : Nat} (hd : decode cc pc = .ok (.astore 0, 2)) (k : ps_G X M (pc + 2) (some (.ref x) :: l) stk) : ps_G X M pc (z :: l) (.ref x :: stk) := fun H locs ls hP hR hS hl => lv_astore C.1 C.2.1 hd (ps_lv_has hl) (by have := hl.1; simp only [List.length_cons] at this; omega) rfl (fun ls1 hl1 => k H locs ls1 hP hR hS (ps_lv_set hl (by have := hl.1; simp only [List.length_cons] at this; omega) (fun x h0 hx => absurd h0 (Nat.lt_irrefl _)) hl1))
theorem ps_lloadn0 {X : ps_X} {own : String} {cc : ByteArray} (C : ps_C X own cc) {M : ps_M} {pc : Nat} {l : List (Option Value)} {stk : List Value} {x : Int64} (hd : decode cc pc = .ok (.lload_n 0, 1)) (k : ps_G X M (pc + 1) (some (.long x) :: l) (.long x :: stk)) : ps_G X M pc (some (.long x) :: l) stk := fun H locs ls hP hR hS hl => lv_lload_n C.1 C.2.1 hd rfl (hl.2.2.2 0 _ rfl) (k H locs ls hP hR hS hl)
theorem ps_lload0 {X : ps_X} {own : String} {cc : ByteArray} (C : ps_C X own cc) {M : ps_M} {pc : Nat} {l : List (Option Value)} {stk : List Value} {x : Int64} (hd : decode cc pc = .ok (.lload 0, 2)) (k : ps_G X M (pc + 2) (some (.long x) :: l) (.long x :: stk)) : ps_G X M pc (some (.long x) :: l) stk := fun H locs ls hP hR hS hl => lv_lload C.1 C.2.1 hd (hl.2.2.2 0 _ rfl) (k H locs ls hP hR hS hl)
theorem ps_lstoren0 {X : ps_X} {own : String} {cc : ByteArray} (C : ps_C X own cc) {M : ps_M} {pc : Nat} {l : List (Option Value)} {stk : List Value} {z y : Option Value} {x : Int64} (hd : decode cc pc = .ok (.lstore_n 0, 1)) (k : ps_G X M (pc + 1) (some (.long x) :: none :: l) stk) : ps_G X M pc (z :: y :: l) (.long x :: stk) := fun H locs ls hP hR hS hl => lv_lstore_n C.1 C.2.1 hd rfl (ps_lv_has hl) (by have := hl.1; simp only [List.length_cons] at this; omega) rfl (fun ls1 hl1 => k H locs ls1 hP hR hS (ps_lv_set2 hl (by have := hl.1; simp only [List.length_cons] at this; omega) (fun x h0 hx => absurd h0 (Nat.lt_irrefl _)) hl1))
theorem ps_lstore0 {X : ps_X} {own : String} {cc : ByteArray} (C : ps_C X own cc) {M : ps_M} {pc : Nat} {l : List (Option Value)} {stk : List Value} {z y : Option Value} {x : Int64} (hd : decode cc pc = .ok (.lstore 0, 2)) (k : ps_G X M (pc + 2) (some (.long x) :: none :: l) stk) : ps_G X M pc (z :: y :: l) (.long x :: stk) := fun H locs ls hP hR hS hl => lv_lstore C.1 C.2.1 hd (ps_lv_has hl) (by have := hl.1; simp only [List.length_cons] at this; omega) rfl (fun ls1 hl1 => k H locs ls1 hP hR hS (ps_lv_set2 hl (by have := hl.1; simp only [List.length_cons] at this; omega) (fun x h0 hx => absurd h0 (Nat.lt_irrefl _)) hl1))
theorem ps_iinc0 {X : ps_X} {own : String} {cc : ByteArray} (C : ps_C X own cc) {M : ps_M} {pc : Nat} {l : List (Option Value)} {stk : List Value} {x : Int32} {n : Int} (c : Int32) (hc : Int32.ofInt n = c) (hd : decode cc pc = .ok (.iinc 0 n, 3)) (k : ∀ y : Int32, y = x + c → ps_G X M (pc + 3) (some (.int y) :: l) stk) : ps_G X M pc (some (.int x) :: l) stk := fun H locs ls hP hR hS hl => by
  obtain ⟨q, hq⟩ := List.getElem?_of_mem (ps_pairs_in _ 0 0 (.int x) (show (some (Value.int x) :: l : List (Option Value))[0]? = some (some (.int x)) from rfl))
  exact lv_iinc C.1 C.2.1 hd (ps_lv_has hl) hq (v := x + c) (by rw [hc]) (by have := hl.1; simp only [List.length_cons] at this; omega) rfl (fun ls1 hl1 => k _ rfl H locs ls1 hP hR hS (ps_lv_set hl (by have := hl.1; simp only [List.length_cons] at this; omega) (fun x h0 hx => absurd h0 (Nat.lt_irrefl _)) hl1))
theorem ps_iloadn1 {X : ps_X} {own : String} {cc : ByteArray} (C : ps_C X own cc) {M : ps_M} {pc : Nat} {l : List (Option Value)} {stk : List Value} {l0 : Option Value} {x : Int32} (hd : decode cc pc = .ok (.iload_n 1, 1)) (k : ps_G X M (pc + 1) (l0 :: some (.int x) :: l) (.int x :: stk)) : ps_G X M pc (l0 :: some (.int x) :: l) stk := fun H locs ls hP hR hS hl => lv_iload_n C.1 C.2.1 hd rfl (hl.2.2.2 1 _ rfl) (k H locs ls hP hR hS hl)
theorem ps_iload1 {X : ps_X} {own : String} {cc : ByteArray} (C : ps_C X own cc) {M : ps_M} {pc : Nat} {l : List (Option Value)} {stk : List Value} {l0 : Option Value} {x : Int32} (hd : decode cc pc = .ok (.iload 1, 2)) (k : ps_G X M (pc + 2) (l0 :: some (.int x) :: l) (.int x :: stk)) : ps_G X M pc (l0 :: some (.int x) :: l) stk := fun H locs ls hP hR hS hl => lv_iload C.1 C.2.1 hd (hl.2.2.2 1 _ rfl) (k H locs ls hP hR hS hl)
theorem ps_istoren1 {X : ps_X} {own : String} {cc : ByteArray} (C : ps_C X own cc) {M : ps_M} {pc : Nat} {l : List (Option Value)} {stk : List Value} {l0 : Option Value} {z : Option Value} {x : Int32} (hp : ps_n2 l0 = true) (hd : decode cc pc = .ok (.istore_n 1, 1)) (k : ps_G X M (pc + 1) (l0 :: some (.int x) :: l) stk) : ps_G X M pc (l0 :: z :: l) (.int x :: stk) := fun H locs ls hP hR hS hl => lv_istore_n C.1 C.2.1 hd rfl (ps_lv_has hl) (by have := hl.1; simp only [List.length_cons] at this; omega) rfl (fun ls1 hl1 => k H locs ls1 hP hR hS (ps_lv_set hl (by have := hl.1; simp only [List.length_cons] at this; omega) (fun x h0 hx => by cases hx; exact hp) hl1))
theorem ps_istore1 {X : ps_X} {own : String} {cc : ByteArray} (C : ps_C X own cc) {M : ps_M} {pc : Nat} {l : List (Option Value)} {stk : List Value} {l0 : Option Value} {z : Option Value} {x : Int32} (hp : ps_n2 l0 = true) (hd : decode cc pc = .ok (.istore 1, 2)) (k : ps_G X M (pc + 2) (l0 :: some (.int x) :: l) stk) : ps_G X M pc (l0 :: z :: l) (.int x :: stk) := fun H locs ls hP hR hS hl => lv_istore C.1 C.2.1 hd (ps_lv_has hl) (by have := hl.1; simp only [List.length_cons] at this; omega) rfl (fun ls1 hl1 => k H locs ls1 hP hR hS (ps_lv_set hl (by have := hl.1; simp only [List.length_cons] at this; omega) (fun x h0 hx => by cases hx; exact hp) hl1))
theorem ps_aloadn1 {X : ps_X} {own : String} {cc : ByteArray} (C : ps_C X own cc) {M : ps_M} {pc : Nat} {l : List (Option Value)} {stk : List Value} {l0 : Option Value} {x : Nat} (hd : decode cc pc = .ok (.aload_n 1, 1)) (k : ps_G X M (pc + 1) (l0 :: some (.ref x) :: l) (.ref x :: stk)) : ps_G X M pc (l0 :: some (.ref x) :: l) stk := fun H locs ls hP hR hS hl => lv_aload_n C.1 C.2.1 hd rfl (hl.2.2.2 1 _ rfl) (k H locs ls hP hR hS hl)
theorem ps_aload1 {X : ps_X} {own : String} {cc : ByteArray} (C : ps_C X own cc) {M : ps_M} {pc : Nat} {l : List (Option Value)} {stk : List Value} {l0 : Option Value} {x : Nat} (hd : decode cc pc = .ok (.aload 1, 2)) (k : ps_G X M (pc + 2) (l0 :: some (.ref x) :: l) (.ref x :: stk)) : ps_G X M pc (l0 :: some (.ref x) :: l) stk := fun H locs ls hP hR hS hl => lv_aload C.1 C.2.1 hd (hl.2.2.2 1 _ rfl) (k H locs ls hP hR hS hl)
theorem ps_astoren1 {X : ps_X} {own : String} {cc : ByteArray} (C : ps_C X own cc) {M : ps_M} {pc : Nat} {l : List (Option Value)} {stk : List Value} {l0 : Option Value} {z : Option Value} {x : Nat} (hp : ps_n2 l0 = true) (hd : decode cc pc = .ok (.astore_n 1, 1)) (k : ps_G X M (pc + 1) (l0 :: some (.ref x) :: l) stk) : ps_G X M pc (l0 :: z :: l) (.ref x :: stk) := fun H locs ls hP hR hS hl => lv_astore_n C.1 C.2.1 hd rfl (ps_lv_has hl) (by have := hl.1; simp only [List.length_cons] at this; omega) rfl (fun ls1 hl1 => k H locs ls1 hP hR hS (ps_lv_set hl (by have := hl.1; simp only [List.length_cons] at this; omega) (fun x h0 hx => by cases hx; exact hp) hl1))
theorem ps_astore1 {X : ps_X} {own : String} {cc : ByteArray} (C : ps_C X own cc) {M : ps_M} {pc : Nat} {l : List (Option Value)} {stk : List Value} {l0 : Option Value} {z : Option Value} {x : Nat} (hp : ps_n2 l0 = true) (hd : decode cc pc = .ok (.astore 1, 2)) (k : ps_G X M (pc + 2) (l0 :: some (.ref x) :: l) stk) : ps_G X M pc (l0 :: z :: l) (.ref x :: stk) := fun H locs ls hP hR hS hl => lv_astore C.1 C.2.1 hd (ps_lv_has hl) (by have := hl.1; simp only [List.length_cons] at this; omega) rfl (fun ls1 hl1 => k H locs ls1 hP hR hS (ps_lv_set hl (by have := hl.1; simp only [List.length_cons] at this; omega) (fun x h0 hx => by cases hx; exact hp) hl1))
theorem ps_lloadn1 {X : ps_X} {own : String} {cc : ByteArray} (C : ps_C X own cc) {M : ps_M} {pc : Nat} {l : List (Option Value)} {stk : List Value} {l0 : Option Value} {x : Int64} (hd : decode cc pc = .ok (.lload_n 1, 1)) (k : ps_G X M (pc + 1) (l0 :: some (.long x) :: l) (.long x :: stk)) : ps_G X M pc (l0 :: some (.long x) :: l) stk := fun H locs ls hP hR hS hl => lv_lload_n C.1 C.2.1 hd rfl (hl.2.2.2 1 _ rfl) (k H locs ls hP hR hS hl)
theorem ps_lload1 {X : ps_X} {own : String} {cc : ByteArray} (C : ps_C X own cc) {M : ps_M} {pc : Nat} {l : List (Option Value)} {stk : List Value} {l0 : Option Value} {x : Int64} (hd : decode cc pc = .ok (.lload 1, 2)) (k : ps_G X M (pc + 2) (l0 :: some (.long x) :: l) (.long x :: stk)) : ps_G X M pc (l0 :: some (.long x) :: l) stk := fun H locs ls hP hR hS hl => lv_lload C.1 C.2.1 hd (hl.2.2.2 1 _ rfl) (k H locs ls hP hR hS hl)
theorem ps_lstoren1 {X : ps_X} {own : String} {cc : ByteArray} (C : ps_C X own cc) {M : ps_M} {pc : Nat} {l : List (Option Value)} {stk : List Value} {l0 : Option Value} {z y : Option Value} {x : Int64} (hp : ps_n2 l0 = true) (hd : decode cc pc = .ok (.lstore_n 1, 1)) (k : ps_G X M (pc + 1) (l0 :: some (.long x) :: none :: l) stk) : ps_G X M pc (l0 :: z :: y :: l) (.long x :: stk) := fun H locs ls hP hR hS hl => lv_lstore_n C.1 C.2.1 hd rfl (ps_lv_has hl) (by have := hl.1; simp only [List.length_cons] at this; omega) rfl (fun ls1 hl1 => k H locs ls1 hP hR hS (ps_lv_set2 hl (by have := hl.1; simp only [List.length_cons] at this; omega) (fun x h0 hx => by cases hx; exact hp) hl1))
theorem ps_lstore1 {X : ps_X} {own : String} {cc : ByteArray} (C : ps_C X own cc) {M : ps_M} {pc : Nat} {l : List (Option Value)} {stk : List Value} {l0 : Option Value} {z y : Option Value} {x : Int64} (hp : ps_n2 l0 = true) (hd : decode cc pc = .ok (.lstore 1, 2)) (k : ps_G X M (pc + 2) (l0 :: some (.long x) :: none :: l) stk) : ps_G X M pc (l0 :: z :: y :: l) (.long x :: stk) := fun H locs ls hP hR hS hl => lv_lstore C.1 C.2.1 hd (ps_lv_has hl) (by have := hl.1; simp only [List.length_cons] at this; omega) rfl (fun ls1 hl1 => k H locs ls1 hP hR hS (ps_lv_set2 hl (by have := hl.1; simp only [List.length_cons] at this; omega) (fun x h0 hx => by cases hx; exact hp) hl1))
theorem ps_iinc1 {X : ps_X} {own : String} {cc : ByteArray} (C : ps_C X own cc) {M : ps_M} {pc : Nat} {l : List (Option Value)} {stk : List Value} {l0 : Option Value} {x : Int32} {n : Int} (hp : ps_n2 l0 = true) (c : Int32) (hc : Int32.ofInt n = c) (hd : decode cc pc = .ok (.iinc 1 n, 3)) (k : ∀ y : Int32, y = x + c → ps_G X M (pc + 3) (l0 :: some (.int y) :: l) stk) : ps_G X M pc (l0 :: some (.int x) :: l) stk := fun H locs ls hP hR hS hl => by
  obtain ⟨q, hq⟩ := List.getElem?_of_mem (ps_pairs_in _ 0 1 (.int x) (show (l0 :: some (Value.int x) :: l : List (Option Value))[1]? = some (some (.int x)) from rfl))
  exact lv_iinc C.1 C.2.1 hd (ps_lv_has hl) hq (v := x + c) (by rw [hc]) (by have := hl.1; simp only [List.length_cons] at this; omega) rfl (fun ls1 hl1 => k _ rfl H locs ls1 hP hR hS (ps_lv_set hl (by have := hl.1; simp only [List.length_cons] at this; omega) (fun x h0 hx => by cases hx; exact hp) hl1))
theorem ps_iloadn2 {X : ps_X} {own : String} {cc : ByteArray} (C : ps_C X own cc) {M : ps_M} {pc : Nat} {l : List (Option Value)} {stk : List Value} {l0 l1 : Option Value} {x : Int32} (hd : decode cc pc = .ok (.iload_n 2, 1)) (k : ps_G X M (pc + 1) (l0 :: l1 :: some (.int x) :: l) (.int x :: stk)) : ps_G X M pc (l0 :: l1 :: some (.int x) :: l) stk := fun H locs ls hP hR hS hl => lv_iload_n C.1 C.2.1 hd rfl (hl.2.2.2 2 _ rfl) (k H locs ls hP hR hS hl)
theorem ps_iload2 {X : ps_X} {own : String} {cc : ByteArray} (C : ps_C X own cc) {M : ps_M} {pc : Nat} {l : List (Option Value)} {stk : List Value} {l0 l1 : Option Value} {x : Int32} (hd : decode cc pc = .ok (.iload 2, 2)) (k : ps_G X M (pc + 2) (l0 :: l1 :: some (.int x) :: l) (.int x :: stk)) : ps_G X M pc (l0 :: l1 :: some (.int x) :: l) stk := fun H locs ls hP hR hS hl => lv_iload C.1 C.2.1 hd (hl.2.2.2 2 _ rfl) (k H locs ls hP hR hS hl)
theorem ps_istoren2 {X : ps_X} {own : String} {cc : ByteArray} (C : ps_C X own cc) {M : ps_M} {pc : Nat} {l : List (Option Value)} {stk : List Value} {l0 l1 : Option Value} {z : Option Value} {x : Int32} (hp : ps_n2 l1 = true) (hd : decode cc pc = .ok (.istore_n 2, 1)) (k : ps_G X M (pc + 1) (l0 :: l1 :: some (.int x) :: l) stk) : ps_G X M pc (l0 :: l1 :: z :: l) (.int x :: stk) := fun H locs ls hP hR hS hl => lv_istore_n C.1 C.2.1 hd rfl (ps_lv_has hl) (by have := hl.1; simp only [List.length_cons] at this; omega) rfl (fun ls1 hl1 => k H locs ls1 hP hR hS (ps_lv_set hl (by have := hl.1; simp only [List.length_cons] at this; omega) (fun x h0 hx => by cases hx; exact hp) hl1))
theorem ps_istore2 {X : ps_X} {own : String} {cc : ByteArray} (C : ps_C X own cc) {M : ps_M} {pc : Nat} {l : List (Option Value)} {stk : List Value} {l0 l1 : Option Value} {z : Option Value} {x : Int32} (hp : ps_n2 l1 = true) (hd : decode cc pc = .ok (.istore 2, 2)) (k : ps_G X M (pc + 2) (l0 :: l1 :: some (.int x) :: l) stk) : ps_G X M pc (l0 :: l1 :: z :: l) (.int x :: stk) := fun H locs ls hP hR hS hl => lv_istore C.1 C.2.1 hd (ps_lv_has hl) (by have := hl.1; simp only [List.length_cons] at this; omega) rfl (fun ls1 hl1 => k H locs ls1 hP hR hS (ps_lv_set hl (by have := hl.1; simp only [List.length_cons] at this; omega) (fun x h0 hx => by cases hx; exact hp) hl1))
theorem ps_aloadn2 {X : ps_X} {own : String} {cc : ByteArray} (C : ps_C X own cc) {M : ps_M} {pc : Nat} {l : List (Option Value)} {stk : List Value} {l0 l1 : Option Value} {x : Nat} (hd : decode cc pc = .ok (.aload_n 2, 1)) (k : ps_G X M (pc + 1) (l0 :: l1 :: some (.ref x) :: l) (.ref x :: stk)) : ps_G X M pc (l0 :: l1 :: some (.ref x) :: l) stk := fun H locs ls hP hR hS hl => lv_aload_n C.1 C.2.1 hd rfl (hl.2.2.2 2 _ rfl) (k H locs ls hP hR hS hl)
theorem ps_aload2 {X : ps_X} {own : String} {cc : ByteArray} (C : ps_C X own cc) {M : ps_M} {pc : Nat} {l : List (Option Value)} {stk : List Value} {l0 l1 : Option Value} {x : Nat} (hd : decode cc pc = .ok (.aload 2, 2)) (k : ps_G X M (pc + 2) (l0 :: l1 :: some (.ref x) :: l) (.ref x :: stk)) : ps_G X M pc (l0 :: l1 :: some (.ref x) :: l) stk := fun H locs ls hP hR hS hl => lv_aload C.1 C.2.1 hd (hl.2.2.2 2 _ rfl) (k H locs ls hP hR hS hl)
theorem ps_astoren2 {X : ps_X} {own : String} {cc : ByteArray} (C : ps_C X own cc) {M : ps_M} {pc : Nat} {l : List (Option Value)} {stk : List Value} {l0 l1 : Option Value} {z : Option Value} {x : Nat} (hp : ps_n2 l1 = true) (hd : decode cc pc = .ok (.astore_n 2, 1)) (k : ps_G X M (pc + 1) (l0 :: l1 :: some (.ref x) :: l) stk) : ps_G X M pc (l0 :: l1 :: z :: l) (.ref x :: stk) := fun H locs ls hP hR hS hl => lv_astore_n C.1 C.2.1 hd rfl (ps_lv_has hl) (by have := hl.1; simp only [List.length_cons] at this; omega) rfl (fun ls1 hl1 => k H locs ls1 hP hR hS (ps_lv_set hl (by have := hl.1; simp only [List.length_cons] at this; omega) (fun x h0 hx => by cases hx; exact hp) hl1))
theorem ps_astore2 {X : ps_X} {own : String} {cc : ByteArray} (C : ps_C X own cc) {M : ps_M} {pc : Nat} {l : List (Option Value)} {stk : List Value} {l0 l1 : Option Value} {z : Option Value} {x : Nat} (hp : ps_n2 l1 = true) (hd : decode cc pc = .ok (.astore 2, 2)) (k : ps_G X M (pc + 2) (l0 :: l1 :: some (.ref x) :: l) stk) : ps_G X M pc (l0 :: l1 :: z :: l) (.ref x :: stk) := fun H locs ls hP hR hS hl => lv_astore C.1 C.2.1 hd (ps_lv_has hl) (by have := hl.1; simp only [List.length_cons] at this; omega) rfl (fun ls1 hl1 => k H locs ls1 hP hR hS (ps_lv_set hl (by have := hl.1; simp only [List.length_cons] at this; omega) (fun x h0 hx => by cases hx; exact hp) hl1))
theorem ps_lloadn2 {X : ps_X} {own : String} {cc : ByteArray} (C : ps_C X own cc) {M : ps_M} {pc : Nat} {l : List (Option Value)} {stk : List Value} {l0 l1 : Option Value} {x : Int64} (hd : decode cc pc = .ok (.lload_n 2, 1)) (k : ps_G X M (pc + 1) (l0 :: l1 :: some (.long x) :: l) (.long x :: stk)) : ps_G X M pc (l0 :: l1 :: some (.long x) :: l) stk := fun H locs ls hP hR hS hl => lv_lload_n C.1 C.2.1 hd rfl (hl.2.2.2 2 _ rfl) (k H locs ls hP hR hS hl)
theorem ps_lload2 {X : ps_X} {own : String} {cc : ByteArray} (C : ps_C X own cc) {M : ps_M} {pc : Nat} {l : List (Option Value)} {stk : List Value} {l0 l1 : Option Value} {x : Int64} (hd : decode cc pc = .ok (.lload 2, 2)) (k : ps_G X M (pc + 2) (l0 :: l1 :: some (.long x) :: l) (.long x :: stk)) : ps_G X M pc (l0 :: l1 :: some (.long x) :: l) stk := fun H locs ls hP hR hS hl => lv_lload C.1 C.2.1 hd (hl.2.2.2 2 _ rfl) (k H locs ls hP hR hS hl)
theorem ps_lstoren2 {X : ps_X} {own : String} {cc : ByteArray} (C : ps_C X own cc) {M : ps_M} {pc : Nat} {l : List (Option Value)} {stk : List Value} {l0 l1 : Option Value} {z y : Option Value} {x : Int64} (hp : ps_n2 l1 = true) (hd : decode cc pc = .ok (.lstore_n 2, 1)) (k : ps_G X M (pc + 1) (l0 :: l1 :: some (.long x) :: none :: l) stk) : ps_G X M pc (l0 :: l1 :: z :: y :: l) (.long x :: stk) := fun H locs ls hP hR hS hl => lv_lstore_n C.1 C.2.1 hd rfl (ps_lv_has hl) (by have := hl.1; simp only [List.length_cons] at this; omega) rfl (fun ls1 hl1 => k H locs ls1 hP hR hS (ps_lv_set2 hl (by have := hl.1; simp only [List.length_cons] at this; omega) (fun x h0 hx => by cases hx; exact hp) hl1))
theorem ps_lstore2 {X : ps_X} {own : String} {cc : ByteArray} (C : ps_C X own cc) {M : ps_M} {pc : Nat} {l : List (Option Value)} {stk : List Value} {l0 l1 : Option Value} {z y : Option Value} {x : Int64} (hp : ps_n2 l1 = true) (hd : decode cc pc = .ok (.lstore 2, 2)) (k : ps_G X M (pc + 2) (l0 :: l1 :: some (.long x) :: none :: l) stk) : ps_G X M pc (l0 :: l1 :: z :: y :: l) (.long x :: stk) := fun H locs ls hP hR hS hl => lv_lstore C.1 C.2.1 hd (ps_lv_has hl) (by have := hl.1; simp only [List.length_cons] at this; omega) rfl (fun ls1 hl1 => k H locs ls1 hP hR hS (ps_lv_set2 hl (by have := hl.1; simp only [List.length_cons] at this; omega) (fun x h0 hx => by cases hx; exact hp) hl1))
theorem ps_iinc2 {X : ps_X} {own : String} {cc : ByteArray} (C : ps_C X own cc) {M : ps_M} {pc : Nat} {l : List (Option Value)} {stk : List Value} {l0 l1 : Option Value} {x : Int32} {n : Int} (hp : ps_n2 l1 = true) (c : Int32) (hc : Int32.ofInt n = c) (hd : decode cc pc = .ok (.iinc 2 n, 3)) (k : ∀ y : Int32, y = x + c → ps_G X M (pc + 3) (l0 :: l1 :: some (.int y) :: l) stk) : ps_G X M pc (l0 :: l1 :: some (.int x) :: l) stk := fun H locs ls hP hR hS hl => by
  obtain ⟨q, hq⟩ := List.getElem?_of_mem (ps_pairs_in _ 0 2 (.int x) (show (l0 :: l1 :: some (Value.int x) :: l : List (Option Value))[2]? = some (some (.int x)) from rfl))
  exact lv_iinc C.1 C.2.1 hd (ps_lv_has hl) hq (v := x + c) (by rw [hc]) (by have := hl.1; simp only [List.length_cons] at this; omega) rfl (fun ls1 hl1 => k _ rfl H locs ls1 hP hR hS (ps_lv_set hl (by have := hl.1; simp only [List.length_cons] at this; omega) (fun x h0 hx => by cases hx; exact hp) hl1))
theorem ps_iloadn3 {X : ps_X} {own : String} {cc : ByteArray} (C : ps_C X own cc) {M : ps_M} {pc : Nat} {l : List (Option Value)} {stk : List Value} {l0 l1 l2 : Option Value} {x : Int32} (hd : decode cc pc = .ok (.iload_n 3, 1)) (k : ps_G X M (pc + 1) (l0 :: l1 :: l2 :: some (.int x) :: l) (.int x :: stk)) : ps_G X M pc (l0 :: l1 :: l2 :: some (.int x) :: l) stk := fun H locs ls hP hR hS hl => lv_iload_n C.1 C.2.1 hd rfl (hl.2.2.2 3 _ rfl) (k H locs ls hP hR hS hl)
theorem ps_iload3 {X : ps_X} {own : String} {cc : ByteArray} (C : ps_C X own cc) {M : ps_M} {pc : Nat} {l : List (Option Value)} {stk : List Value} {l0 l1 l2 : Option Value} {x : Int32} (hd : decode cc pc = .ok (.iload 3, 2)) (k : ps_G X M (pc + 2) (l0 :: l1 :: l2 :: some (.int x) :: l) (.int x :: stk)) : ps_G X M pc (l0 :: l1 :: l2 :: some (.int x) :: l) stk := fun H locs ls hP hR hS hl => lv_iload C.1 C.2.1 hd (hl.2.2.2 3 _ rfl) (k H locs ls hP hR hS hl)
theorem ps_istoren3 {X : ps_X} {own : String} {cc : ByteArray} (C : ps_C X own cc) {M : ps_M} {pc : Nat} {l : List (Option Value)} {stk : List Value} {l0 l1 l2 : Option Value} {z : Option Value} {x : Int32} (hp : ps_n2 l2 = true) (hd : decode cc pc = .ok (.istore_n 3, 1)) (k : ps_G X M (pc + 1) (l0 :: l1 :: l2 :: some (.int x) :: l) stk) : ps_G X M pc (l0 :: l1 :: l2 :: z :: l) (.int x :: stk) := fun H locs ls hP hR hS hl => lv_istore_n C.1 C.2.1 hd rfl (ps_lv_has hl) (by have := hl.1; simp only [List.length_cons] at this; omega) rfl (fun ls1 hl1 => k H locs ls1 hP hR hS (ps_lv_set hl (by have := hl.1; simp only [List.length_cons] at this; omega) (fun x h0 hx => by cases hx; exact hp) hl1))
theorem ps_istore3 {X : ps_X} {own : String} {cc : ByteArray} (C : ps_C X own cc) {M : ps_M} {pc : Nat} {l : List (Option Value)} {stk : List Value} {l0 l1 l2 : Option Value} {z : Option Value} {x : Int32} (hp : ps_n2 l2 = true) (hd : decode cc pc = .ok (.istore 3, 2)) (k : ps_G X M (pc + 2) (l0 :: l1 :: l2 :: some (.int x) :: l) stk) : ps_G X M pc (l0 :: l1 :: l2 :: z :: l) (.int x :: stk) := fun H locs ls hP hR hS hl => lv_istore C.1 C.2.1 hd (ps_lv_has hl) (by have := hl.1; simp only [List.length_cons] at this; omega) rfl (fun ls1 hl1 => k H locs ls1 hP hR hS (ps_lv_set hl (by have := hl.1; simp only [List.length_cons] at this; omega) (fun x h0 hx => by cases hx; exact hp) hl1))
theorem ps_aloadn3 {X : ps_X} {own : String} {cc : ByteArray} (C : ps_C X own cc) {M : ps_M} {pc : Nat} {l : List (Option Value)} {stk : List Value} {l0 l1 l2 : Option Value} {x : Nat} (hd : decode cc pc = .ok (.aload_n 3, 1)) (k : ps_G X M (pc + 1) (l0 :: l1 :: l2 :: some (.ref x) :: l) (.ref x :: stk)) : ps_G X M pc (l0 :: l1 :: l2 :: some (.ref x) :: l) stk := fun H locs ls hP hR hS hl => lv_aload_n C.1 C.2.1 hd rfl (hl.2.2.2 3 _ rfl) (k H locs ls hP hR hS hl)
theorem ps_aload3 {X : ps_X} {own : String} {cc : ByteArray} (C : ps_C X own cc) {M : ps_M} {pc : Nat} {l : List (Option Value)} {stk : List Value} {l0 l1 l2 : Option Value} {x : Nat} (hd : decode cc pc = .ok (.aload 3, 2)) (k : ps_G X M (pc + 2) (l0 :: l1 :: l2 :: some (.ref x) :: l) (.ref x :: stk)) : ps_G X M pc (l0 :: l1 :: l2 :: some (.ref x) :: l) stk := fun H locs ls hP hR hS hl => lv_aload C.1 C.2.1 hd (hl.2.2.2 3 _ rfl) (k H locs ls hP hR hS hl)
theorem ps_astoren3 {X : ps_X} {own : String} {cc : ByteArray} (C : ps_C X own cc) {M : ps_M} {pc : Nat} {l : List (Option Value)} {stk : List Value} {l0 l1 l2 : Option Value} {z : Option Value} {x : Nat} (hp : ps_n2 l2 = true) (hd : decode cc pc = .ok (.astore_n 3, 1)) (k : ps_G X M (pc + 1) (l0 :: l1 :: l2 :: some (.ref x) :: l) stk) : ps_G X M pc (l0 :: l1 :: l2 :: z :: l) (.ref x :: stk) := fun H locs ls hP hR hS hl => lv_astore_n C.1 C.2.1 hd rfl (ps_lv_has hl) (by have := hl.1; simp only [List.length_cons] at this; omega) rfl (fun ls1 hl1 => k H locs ls1 hP hR hS (ps_lv_set hl (by have := hl.1; simp only [List.length_cons] at this; omega) (fun x h0 hx => by cases hx; exact hp) hl1))
theorem ps_astore3 {X : ps_X} {own : String} {cc : ByteArray} (C : ps_C X own cc) {M : ps_M} {pc : Nat} {l : List (Option Value)} {stk : List Value} {l0 l1 l2 : Option Value} {z : Option Value} {x : Nat} (hp : ps_n2 l2 = true) (hd : decode cc pc = .ok (.astore 3, 2)) (k : ps_G X M (pc + 2) (l0 :: l1 :: l2 :: some (.ref x) :: l) stk) : ps_G X M pc (l0 :: l1 :: l2 :: z :: l) (.ref x :: stk) := fun H locs ls hP hR hS hl => lv_astore C.1 C.2.1 hd (ps_lv_has hl) (by have := hl.1; simp only [List.length_cons] at this; omega) rfl (fun ls1 hl1 => k H locs ls1 hP hR hS (ps_lv_set hl (by have := hl.1; simp only [List.length_cons] at this; omega) (fun x h0 hx => by cases hx; exact hp) hl1))
theorem ps_lloadn3 {X : ps_X} {own : String} {cc : ByteArray} (C : ps_C X own cc) {M : ps_M} {pc : Nat} {l : List (Option Value)} {stk : List Value} {l0 l1 l2 : Option Value} {x : Int64} (hd : decode cc pc = .ok (.lload_n 3, 1)) (k : ps_G X M (pc + 1) (l0 :: l1 :: l2 :: some (.long x) :: l) (.long x :: stk)) : ps_G X M pc (l0 :: l1 :: l2 :: some (.long x) :: l) stk := fun H locs ls hP hR hS hl => lv_lload_n C.1 C.2.1 hd rfl (hl.2.2.2 3 _ rfl) (k H locs ls hP hR hS hl)
theorem ps_lload3 {X : ps_X} {own : String} {cc : ByteArray} (C : ps_C X own cc) {M : ps_M} {pc : Nat} {l : List (Option Value)} {stk : List Value} {l0 l1 l2 : Option Value} {x : Int64} (hd : decode cc pc = .ok (.lload 3, 2)) (k : ps_G X M (pc + 2) (l0 :: l1 :: l2 :: some (.long x) :: l) (.long x :: stk)) : ps_G X M pc (l0 :: l1 :: l2 :: some (.long x) :: l) stk := fun H locs ls hP hR hS hl => lv_lload C.1 C.2.1 hd (hl.2.2.2 3 _ rfl) (k H locs ls hP hR hS hl)
theorem ps_lstoren3 {X : ps_X} {own : String} {cc : ByteArray} (C : ps_C X own cc) {M : ps_M} {pc : Nat} {l : List (Option Value)} {stk : List Value} {l0 l1 l2 : Option Value} {z y : Option Value} {x : Int64} (hp : ps_n2 l2 = true) (hd : decode cc pc = .ok (.lstore_n 3, 1)) (k : ps_G X M (pc + 1) (l0 :: l1 :: l2 :: some (.long x) :: none :: l) stk) : ps_G X M pc (l0 :: l1 :: l2 :: z :: y :: l) (.long x :: stk) := fun H locs ls hP hR hS hl => lv_lstore_n C.1 C.2.1 hd rfl (ps_lv_has hl) (by have := hl.1; simp only [List.length_cons] at this; omega) rfl (fun ls1 hl1 => k H locs ls1 hP hR hS (ps_lv_set2 hl (by have := hl.1; simp only [List.length_cons] at this; omega) (fun x h0 hx => by cases hx; exact hp) hl1))
theorem ps_lstore3 {X : ps_X} {own : String} {cc : ByteArray} (C : ps_C X own cc) {M : ps_M} {pc : Nat} {l : List (Option Value)} {stk : List Value} {l0 l1 l2 : Option Value} {z y : Option Value} {x : Int64} (hp : ps_n2 l2 = true) (hd : decode cc pc = .ok (.lstore 3, 2)) (k : ps_G X M (pc + 2) (l0 :: l1 :: l2 :: some (.long x) :: none :: l) stk) : ps_G X M pc (l0 :: l1 :: l2 :: z :: y :: l) (.long x :: stk) := fun H locs ls hP hR hS hl => lv_lstore C.1 C.2.1 hd (ps_lv_has hl) (by have := hl.1; simp only [List.length_cons] at this; omega) rfl (fun ls1 hl1 => k H locs ls1 hP hR hS (ps_lv_set2 hl (by have := hl.1; simp only [List.length_cons] at this; omega) (fun x h0 hx => by cases hx; exact hp) hl1))
theorem ps_iinc3 {X : ps_X} {own : String} {cc : ByteArray} (C : ps_C X own cc) {M : ps_M} {pc : Nat} {l : List (Option Value)} {stk : List Value} {l0 l1 l2 : Option Value} {x : Int32} {n : Int} (hp : ps_n2 l2 = true) (c : Int32) (hc : Int32.ofInt n = c) (hd : decode cc pc = .ok (.iinc 3 n, 3)) (k : ∀ y : Int32, y = x + c → ps_G X M (pc + 3) (l0 :: l1 :: l2 :: some (.int y) :: l) stk) : ps_G X M pc (l0 :: l1 :: l2 :: some (.int x) :: l) stk := fun H locs ls hP hR hS hl => by
  obtain ⟨q, hq⟩ := List.getElem?_of_mem (ps_pairs_in _ 0 3 (.int x) (show (l0 :: l1 :: l2 :: some (Value.int x) :: l : List (Option Value))[3]? = some (some (.int x)) from rfl))
  exact lv_iinc C.1 C.2.1 hd (ps_lv_has hl) hq (v := x + c) (by rw [hc]) (by have := hl.1; simp only [List.length_cons] at this; omega) rfl (fun ls1 hl1 => k _ rfl H locs ls1 hP hR hS (ps_lv_set hl (by have := hl.1; simp only [List.length_cons] at this; omega) (fun x h0 hx => by cases hx; exact hp) hl1))
theorem ps_iload4 {X : ps_X} {own : String} {cc : ByteArray} (C : ps_C X own cc) {M : ps_M} {pc : Nat} {l : List (Option Value)} {stk : List Value} {l0 l1 l2 l3 : Option Value} {x : Int32} (hd : decode cc pc = .ok (.iload 4, 2)) (k : ps_G X M (pc + 2) (l0 :: l1 :: l2 :: l3 :: some (.int x) :: l) (.int x :: stk)) : ps_G X M pc (l0 :: l1 :: l2 :: l3 :: some (.int x) :: l) stk := fun H locs ls hP hR hS hl => lv_iload C.1 C.2.1 hd (hl.2.2.2 4 _ rfl) (k H locs ls hP hR hS hl)
theorem ps_istore4 {X : ps_X} {own : String} {cc : ByteArray} (C : ps_C X own cc) {M : ps_M} {pc : Nat} {l : List (Option Value)} {stk : List Value} {l0 l1 l2 l3 : Option Value} {z : Option Value} {x : Int32} (hp : ps_n2 l3 = true) (hd : decode cc pc = .ok (.istore 4, 2)) (k : ps_G X M (pc + 2) (l0 :: l1 :: l2 :: l3 :: some (.int x) :: l) stk) : ps_G X M pc (l0 :: l1 :: l2 :: l3 :: z :: l) (.int x :: stk) := fun H locs ls hP hR hS hl => lv_istore C.1 C.2.1 hd (ps_lv_has hl) (by have := hl.1; simp only [List.length_cons] at this; omega) rfl (fun ls1 hl1 => k H locs ls1 hP hR hS (ps_lv_set hl (by have := hl.1; simp only [List.length_cons] at this; omega) (fun x h0 hx => by cases hx; exact hp) hl1))
theorem ps_aload4 {X : ps_X} {own : String} {cc : ByteArray} (C : ps_C X own cc) {M : ps_M} {pc : Nat} {l : List (Option Value)} {stk : List Value} {l0 l1 l2 l3 : Option Value} {x : Nat} (hd : decode cc pc = .ok (.aload 4, 2)) (k : ps_G X M (pc + 2) (l0 :: l1 :: l2 :: l3 :: some (.ref x) :: l) (.ref x :: stk)) : ps_G X M pc (l0 :: l1 :: l2 :: l3 :: some (.ref x) :: l) stk := fun H locs ls hP hR hS hl => lv_aload C.1 C.2.1 hd (hl.2.2.2 4 _ rfl) (k H locs ls hP hR hS hl)
theorem ps_astore4 {X : ps_X} {own : String} {cc : ByteArray} (C : ps_C X own cc) {M : ps_M} {pc : Nat} {l : List (Option Value)} {stk : List Value} {l0 l1 l2 l3 : Option Value} {z : Option Value} {x : Nat} (hp : ps_n2 l3 = true) (hd : decode cc pc = .ok (.astore 4, 2)) (k : ps_G X M (pc + 2) (l0 :: l1 :: l2 :: l3 :: some (.ref x) :: l) stk) : ps_G X M pc (l0 :: l1 :: l2 :: l3 :: z :: l) (.ref x :: stk) := fun H locs ls hP hR hS hl => lv_astore C.1 C.2.1 hd (ps_lv_has hl) (by have := hl.1; simp only [List.length_cons] at this; omega) rfl (fun ls1 hl1 => k H locs ls1 hP hR hS (ps_lv_set hl (by have := hl.1; simp only [List.length_cons] at this; omega) (fun x h0 hx => by cases hx; exact hp) hl1))
theorem ps_lload4 {X : ps_X} {own : String} {cc : ByteArray} (C : ps_C X own cc) {M : ps_M} {pc : Nat} {l : List (Option Value)} {stk : List Value} {l0 l1 l2 l3 : Option Value} {x : Int64} (hd : decode cc pc = .ok (.lload 4, 2)) (k : ps_G X M (pc + 2) (l0 :: l1 :: l2 :: l3 :: some (.long x) :: l) (.long x :: stk)) : ps_G X M pc (l0 :: l1 :: l2 :: l3 :: some (.long x) :: l) stk := fun H locs ls hP hR hS hl => lv_lload C.1 C.2.1 hd (hl.2.2.2 4 _ rfl) (k H locs ls hP hR hS hl)
theorem ps_lstore4 {X : ps_X} {own : String} {cc : ByteArray} (C : ps_C X own cc) {M : ps_M} {pc : Nat} {l : List (Option Value)} {stk : List Value} {l0 l1 l2 l3 : Option Value} {z y : Option Value} {x : Int64} (hp : ps_n2 l3 = true) (hd : decode cc pc = .ok (.lstore 4, 2)) (k : ps_G X M (pc + 2) (l0 :: l1 :: l2 :: l3 :: some (.long x) :: none :: l) stk) : ps_G X M pc (l0 :: l1 :: l2 :: l3 :: z :: y :: l) (.long x :: stk) := fun H locs ls hP hR hS hl => lv_lstore C.1 C.2.1 hd (ps_lv_has hl) (by have := hl.1; simp only [List.length_cons] at this; omega) rfl (fun ls1 hl1 => k H locs ls1 hP hR hS (ps_lv_set2 hl (by have := hl.1; simp only [List.length_cons] at this; omega) (fun x h0 hx => by cases hx; exact hp) hl1))
theorem ps_iinc4 {X : ps_X} {own : String} {cc : ByteArray} (C : ps_C X own cc) {M : ps_M} {pc : Nat} {l : List (Option Value)} {stk : List Value} {l0 l1 l2 l3 : Option Value} {x : Int32} {n : Int} (hp : ps_n2 l3 = true) (c : Int32) (hc : Int32.ofInt n = c) (hd : decode cc pc = .ok (.iinc 4 n, 3)) (k : ∀ y : Int32, y = x + c → ps_G X M (pc + 3) (l0 :: l1 :: l2 :: l3 :: some (.int y) :: l) stk) : ps_G X M pc (l0 :: l1 :: l2 :: l3 :: some (.int x) :: l) stk := fun H locs ls hP hR hS hl => by
  obtain ⟨q, hq⟩ := List.getElem?_of_mem (ps_pairs_in _ 0 4 (.int x) (show (l0 :: l1 :: l2 :: l3 :: some (Value.int x) :: l : List (Option Value))[4]? = some (some (.int x)) from rfl))
  exact lv_iinc C.1 C.2.1 hd (ps_lv_has hl) hq (v := x + c) (by rw [hc]) (by have := hl.1; simp only [List.length_cons] at this; omega) rfl (fun ls1 hl1 => k _ rfl H locs ls1 hP hR hS (ps_lv_set hl (by have := hl.1; simp only [List.length_cons] at this; omega) (fun x h0 hx => by cases hx; exact hp) hl1))
theorem ps_iload5 {X : ps_X} {own : String} {cc : ByteArray} (C : ps_C X own cc) {M : ps_M} {pc : Nat} {l : List (Option Value)} {stk : List Value} {l0 l1 l2 l3 l4 : Option Value} {x : Int32} (hd : decode cc pc = .ok (.iload 5, 2)) (k : ps_G X M (pc + 2) (l0 :: l1 :: l2 :: l3 :: l4 :: some (.int x) :: l) (.int x :: stk)) : ps_G X M pc (l0 :: l1 :: l2 :: l3 :: l4 :: some (.int x) :: l) stk := fun H locs ls hP hR hS hl => lv_iload C.1 C.2.1 hd (hl.2.2.2 5 _ rfl) (k H locs ls hP hR hS hl)
theorem ps_istore5 {X : ps_X} {own : String} {cc : ByteArray} (C : ps_C X own cc) {M : ps_M} {pc : Nat} {l : List (Option Value)} {stk : List Value} {l0 l1 l2 l3 l4 : Option Value} {z : Option Value} {x : Int32} (hp : ps_n2 l4 = true) (hd : decode cc pc = .ok (.istore 5, 2)) (k : ps_G X M (pc + 2) (l0 :: l1 :: l2 :: l3 :: l4 :: some (.int x) :: l) stk) : ps_G X M pc (l0 :: l1 :: l2 :: l3 :: l4 :: z :: l) (.int x :: stk) := fun H locs ls hP hR hS hl => lv_istore C.1 C.2.1 hd (ps_lv_has hl) (by have := hl.1; simp only [List.length_cons] at this; omega) rfl (fun ls1 hl1 => k H locs ls1 hP hR hS (ps_lv_set hl (by have := hl.1; simp only [List.length_cons] at this; omega) (fun x h0 hx => by cases hx; exact hp) hl1))
theorem ps_aload5 {X : ps_X} {own : String} {cc : ByteArray} (C : ps_C X own cc) {M : ps_M} {pc : Nat} {l : List (Option Value)} {stk : List Value} {l0 l1 l2 l3 l4 : Option Value} {x : Nat} (hd : decode cc pc = .ok (.aload 5, 2)) (k : ps_G X M (pc + 2) (l0 :: l1 :: l2 :: l3 :: l4 :: some (.ref x) :: l) (.ref x :: stk)) : ps_G X M pc (l0 :: l1 :: l2 :: l3 :: l4 :: some (.ref x) :: l) stk := fun H locs ls hP hR hS hl => lv_aload C.1 C.2.1 hd (hl.2.2.2 5 _ rfl) (k H locs ls hP hR hS hl)
theorem ps_astore5 {X : ps_X} {own : String} {cc : ByteArray} (C : ps_C X own cc) {M : ps_M} {pc : Nat} {l : List (Option Value)} {stk : List Value} {l0 l1 l2 l3 l4 : Option Value} {z : Option Value} {x : Nat} (hp : ps_n2 l4 = true) (hd : decode cc pc = .ok (.astore 5, 2)) (k : ps_G X M (pc + 2) (l0 :: l1 :: l2 :: l3 :: l4 :: some (.ref x) :: l) stk) : ps_G X M pc (l0 :: l1 :: l2 :: l3 :: l4 :: z :: l) (.ref x :: stk) := fun H locs ls hP hR hS hl => lv_astore C.1 C.2.1 hd (ps_lv_has hl) (by have := hl.1; simp only [List.length_cons] at this; omega) rfl (fun ls1 hl1 => k H locs ls1 hP hR hS (ps_lv_set hl (by have := hl.1; simp only [List.length_cons] at this; omega) (fun x h0 hx => by cases hx; exact hp) hl1))
theorem ps_lload5 {X : ps_X} {own : String} {cc : ByteArray} (C : ps_C X own cc) {M : ps_M} {pc : Nat} {l : List (Option Value)} {stk : List Value} {l0 l1 l2 l3 l4 : Option Value} {x : Int64} (hd : decode cc pc = .ok (.lload 5, 2)) (k : ps_G X M (pc + 2) (l0 :: l1 :: l2 :: l3 :: l4 :: some (.long x) :: l) (.long x :: stk)) : ps_G X M pc (l0 :: l1 :: l2 :: l3 :: l4 :: some (.long x) :: l) stk := fun H locs ls hP hR hS hl => lv_lload C.1 C.2.1 hd (hl.2.2.2 5 _ rfl) (k H locs ls hP hR hS hl)
theorem ps_lstore5 {X : ps_X} {own : String} {cc : ByteArray} (C : ps_C X own cc) {M : ps_M} {pc : Nat} {l : List (Option Value)} {stk : List Value} {l0 l1 l2 l3 l4 : Option Value} {z y : Option Value} {x : Int64} (hp : ps_n2 l4 = true) (hd : decode cc pc = .ok (.lstore 5, 2)) (k : ps_G X M (pc + 2) (l0 :: l1 :: l2 :: l3 :: l4 :: some (.long x) :: none :: l) stk) : ps_G X M pc (l0 :: l1 :: l2 :: l3 :: l4 :: z :: y :: l) (.long x :: stk) := fun H locs ls hP hR hS hl => lv_lstore C.1 C.2.1 hd (ps_lv_has hl) (by have := hl.1; simp only [List.length_cons] at this; omega) rfl (fun ls1 hl1 => k H locs ls1 hP hR hS (ps_lv_set2 hl (by have := hl.1; simp only [List.length_cons] at this; omega) (fun x h0 hx => by cases hx; exact hp) hl1))
theorem ps_iinc5 {X : ps_X} {own : String} {cc : ByteArray} (C : ps_C X own cc) {M : ps_M} {pc : Nat} {l : List (Option Value)} {stk : List Value} {l0 l1 l2 l3 l4 : Option Value} {x : Int32} {n : Int} (hp : ps_n2 l4 = true) (c : Int32) (hc : Int32.ofInt n = c) (hd : decode cc pc = .ok (.iinc 5 n, 3)) (k : ∀ y : Int32, y = x + c → ps_G X M (pc + 3) (l0 :: l1 :: l2 :: l3 :: l4 :: some (.int y) :: l) stk) : ps_G X M pc (l0 :: l1 :: l2 :: l3 :: l4 :: some (.int x) :: l) stk := fun H locs ls hP hR hS hl => by
  obtain ⟨q, hq⟩ := List.getElem?_of_mem (ps_pairs_in _ 0 5 (.int x) (show (l0 :: l1 :: l2 :: l3 :: l4 :: some (Value.int x) :: l : List (Option Value))[5]? = some (some (.int x)) from rfl))
  exact lv_iinc C.1 C.2.1 hd (ps_lv_has hl) hq (v := x + c) (by rw [hc]) (by have := hl.1; simp only [List.length_cons] at this; omega) rfl (fun ls1 hl1 => k _ rfl H locs ls1 hP hR hS (ps_lv_set hl (by have := hl.1; simp only [List.length_cons] at this; omega) (fun x h0 hx => by cases hx; exact hp) hl1))
theorem ps_iload6 {X : ps_X} {own : String} {cc : ByteArray} (C : ps_C X own cc) {M : ps_M} {pc : Nat} {l : List (Option Value)} {stk : List Value} {l0 l1 l2 l3 l4 l5 : Option Value} {x : Int32} (hd : decode cc pc = .ok (.iload 6, 2)) (k : ps_G X M (pc + 2) (l0 :: l1 :: l2 :: l3 :: l4 :: l5 :: some (.int x) :: l) (.int x :: stk)) : ps_G X M pc (l0 :: l1 :: l2 :: l3 :: l4 :: l5 :: some (.int x) :: l) stk := fun H locs ls hP hR hS hl => lv_iload C.1 C.2.1 hd (hl.2.2.2 6 _ rfl) (k H locs ls hP hR hS hl)
theorem ps_istore6 {X : ps_X} {own : String} {cc : ByteArray} (C : ps_C X own cc) {M : ps_M} {pc : Nat} {l : List (Option Value)} {stk : List Value} {l0 l1 l2 l3 l4 l5 : Option Value} {z : Option Value} {x : Int32} (hp : ps_n2 l5 = true) (hd : decode cc pc = .ok (.istore 6, 2)) (k : ps_G X M (pc + 2) (l0 :: l1 :: l2 :: l3 :: l4 :: l5 :: some (.int x) :: l) stk) : ps_G X M pc (l0 :: l1 :: l2 :: l3 :: l4 :: l5 :: z :: l) (.int x :: stk) := fun H locs ls hP hR hS hl => lv_istore C.1 C.2.1 hd (ps_lv_has hl) (by have := hl.1; simp only [List.length_cons] at this; omega) rfl (fun ls1 hl1 => k H locs ls1 hP hR hS (ps_lv_set hl (by have := hl.1; simp only [List.length_cons] at this; omega) (fun x h0 hx => by cases hx; exact hp) hl1))
theorem ps_aload6 {X : ps_X} {own : String} {cc : ByteArray} (C : ps_C X own cc) {M : ps_M} {pc : Nat} {l : List (Option Value)} {stk : List Value} {l0 l1 l2 l3 l4 l5 : Option Value} {x : Nat} (hd : decode cc pc = .ok (.aload 6, 2)) (k : ps_G X M (pc + 2) (l0 :: l1 :: l2 :: l3 :: l4 :: l5 :: some (.ref x) :: l) (.ref x :: stk)) : ps_G X M pc (l0 :: l1 :: l2 :: l3 :: l4 :: l5 :: some (.ref x) :: l) stk := fun H locs ls hP hR hS hl => lv_aload C.1 C.2.1 hd (hl.2.2.2 6 _ rfl) (k H locs ls hP hR hS hl)
theorem ps_astore6 {X : ps_X} {own : String} {cc : ByteArray} (C : ps_C X own cc) {M : ps_M} {pc : Nat} {l : List (Option Value)} {stk : List Value} {l0 l1 l2 l3 l4 l5 : Option Value} {z : Option Value} {x : Nat} (hp : ps_n2 l5 = true) (hd : decode cc pc = .ok (.astore 6, 2)) (k : ps_G X M (pc + 2) (l0 :: l1 :: l2 :: l3 :: l4 :: l5 :: some (.ref x) :: l) stk) : ps_G X M pc (l0 :: l1 :: l2 :: l3 :: l4 :: l5 :: z :: l) (.ref x :: stk) := fun H locs ls hP hR hS hl => lv_astore C.1 C.2.1 hd (ps_lv_has hl) (by have := hl.1; simp only [List.length_cons] at this; omega) rfl (fun ls1 hl1 => k H locs ls1 hP hR hS (ps_lv_set hl (by have := hl.1; simp only [List.length_cons] at this; omega) (fun x h0 hx => by cases hx; exact hp) hl1))
theorem ps_lload6 {X : ps_X} {own : String} {cc : ByteArray} (C : ps_C X own cc) {M : ps_M} {pc : Nat} {l : List (Option Value)} {stk : List Value} {l0 l1 l2 l3 l4 l5 : Option Value} {x : Int64} (hd : decode cc pc = .ok (.lload 6, 2)) (k : ps_G X M (pc + 2) (l0 :: l1 :: l2 :: l3 :: l4 :: l5 :: some (.long x) :: l) (.long x :: stk)) : ps_G X M pc (l0 :: l1 :: l2 :: l3 :: l4 :: l5 :: some (.long x) :: l) stk := fun H locs ls hP hR hS hl => lv_lload C.1 C.2.1 hd (hl.2.2.2 6 _ rfl) (k H locs ls hP hR hS hl)
theorem ps_lstore6 {X : ps_X} {own : String} {cc : ByteArray} (C : ps_C X own cc) {M : ps_M} {pc : Nat} {l : List (Option Value)} {stk : List Value} {l0 l1 l2 l3 l4 l5 : Option Value} {z y : Option Value} {x : Int64} (hp : ps_n2 l5 = true) (hd : decode cc pc = .ok (.lstore 6, 2)) (k : ps_G X M (pc + 2) (l0 :: l1 :: l2 :: l3 :: l4 :: l5 :: some (.long x) :: none :: l) stk) : ps_G X M pc (l0 :: l1 :: l2 :: l3 :: l4 :: l5 :: z :: y :: l) (.long x :: stk) := fun H locs ls hP hR hS hl => lv_lstore C.1 C.2.1 hd (ps_lv_has hl) (by have := hl.1; simp only [List.length_cons] at this; omega) rfl (fun ls1 hl1 => k H locs ls1 hP hR hS (ps_lv_set2 hl (by have := hl.1; simp only [List.length_cons] at this; omega) (fun x h0 hx => by cases hx; exact hp) hl1))
theorem ps_iinc6 {X : ps_X} {own : String} {cc : ByteArray} (C : ps_C X own cc) {M : ps_M} {pc : Nat} {l : List (Option Value)} {stk : List Value} {l0 l1 l2 l3 l4 l5 : Option Value} {x : Int32} {n : Int} (hp : ps_n2 l5 = true) (c : Int32) (hc : Int32.ofInt n = c) (hd : decode cc pc = .ok (.iinc 6 n, 3)) (k : ∀ y : Int32, y = x + c → ps_G X M (pc + 3) (l0 :: l1 :: l2 :: l3 :: l4 :: l5 :: some (.int y) :: l) stk) : ps_G X M pc (l0 :: l1 :: l2 :: l3 :: l4 :: l5 :: some (.int x) :: l) stk := fun H locs ls hP hR hS hl => by
  obtain ⟨q, hq⟩ := List.getElem?_of_mem (ps_pairs_in _ 0 6 (.int x) (show (l0 :: l1 :: l2 :: l3 :: l4 :: l5 :: some (Value.int x) :: l : List (Option Value))[6]? = some (some (.int x)) from rfl))
  exact lv_iinc C.1 C.2.1 hd (ps_lv_has hl) hq (v := x + c) (by rw [hc]) (by have := hl.1; simp only [List.length_cons] at this; omega) rfl (fun ls1 hl1 => k _ rfl H locs ls1 hP hR hS (ps_lv_set hl (by have := hl.1; simp only [List.length_cons] at this; omega) (fun x h0 hx => by cases hx; exact hp) hl1))
theorem ps_iload7 {X : ps_X} {own : String} {cc : ByteArray} (C : ps_C X own cc) {M : ps_M} {pc : Nat} {l : List (Option Value)} {stk : List Value} {l0 l1 l2 l3 l4 l5 l6 : Option Value} {x : Int32} (hd : decode cc pc = .ok (.iload 7, 2)) (k : ps_G X M (pc + 2) (l0 :: l1 :: l2 :: l3 :: l4 :: l5 :: l6 :: some (.int x) :: l) (.int x :: stk)) : ps_G X M pc (l0 :: l1 :: l2 :: l3 :: l4 :: l5 :: l6 :: some (.int x) :: l) stk := fun H locs ls hP hR hS hl => lv_iload C.1 C.2.1 hd (hl.2.2.2 7 _ rfl) (k H locs ls hP hR hS hl)
theorem ps_istore7 {X : ps_X} {own : String} {cc : ByteArray} (C : ps_C X own cc) {M : ps_M} {pc : Nat} {l : List (Option Value)} {stk : List Value} {l0 l1 l2 l3 l4 l5 l6 : Option Value} {z : Option Value} {x : Int32} (hp : ps_n2 l6 = true) (hd : decode cc pc = .ok (.istore 7, 2)) (k : ps_G X M (pc + 2) (l0 :: l1 :: l2 :: l3 :: l4 :: l5 :: l6 :: some (.int x) :: l) stk) : ps_G X M pc (l0 :: l1 :: l2 :: l3 :: l4 :: l5 :: l6 :: z :: l) (.int x :: stk) := fun H locs ls hP hR hS hl => lv_istore C.1 C.2.1 hd (ps_lv_has hl) (by have := hl.1; simp only [List.length_cons] at this; omega) rfl (fun ls1 hl1 => k H locs ls1 hP hR hS (ps_lv_set hl (by have := hl.1; simp only [List.length_cons] at this; omega) (fun x h0 hx => by cases hx; exact hp) hl1))
theorem ps_aload7 {X : ps_X} {own : String} {cc : ByteArray} (C : ps_C X own cc) {M : ps_M} {pc : Nat} {l : List (Option Value)} {stk : List Value} {l0 l1 l2 l3 l4 l5 l6 : Option Value} {x : Nat} (hd : decode cc pc = .ok (.aload 7, 2)) (k : ps_G X M (pc + 2) (l0 :: l1 :: l2 :: l3 :: l4 :: l5 :: l6 :: some (.ref x) :: l) (.ref x :: stk)) : ps_G X M pc (l0 :: l1 :: l2 :: l3 :: l4 :: l5 :: l6 :: some (.ref x) :: l) stk := fun H locs ls hP hR hS hl => lv_aload C.1 C.2.1 hd (hl.2.2.2 7 _ rfl) (k H locs ls hP hR hS hl)
theorem ps_astore7 {X : ps_X} {own : String} {cc : ByteArray} (C : ps_C X own cc) {M : ps_M} {pc : Nat} {l : List (Option Value)} {stk : List Value} {l0 l1 l2 l3 l4 l5 l6 : Option Value} {z : Option Value} {x : Nat} (hp : ps_n2 l6 = true) (hd : decode cc pc = .ok (.astore 7, 2)) (k : ps_G X M (pc + 2) (l0 :: l1 :: l2 :: l3 :: l4 :: l5 :: l6 :: some (.ref x) :: l) stk) : ps_G X M pc (l0 :: l1 :: l2 :: l3 :: l4 :: l5 :: l6 :: z :: l) (.ref x :: stk) := fun H locs ls hP hR hS hl => lv_astore C.1 C.2.1 hd (ps_lv_has hl) (by have := hl.1; simp only [List.length_cons] at this; omega) rfl (fun ls1 hl1 => k H locs ls1 hP hR hS (ps_lv_set hl (by have := hl.1; simp only [List.length_cons] at this; omega) (fun x h0 hx => by cases hx; exact hp) hl1))
theorem ps_lload7 {X : ps_X} {own : String} {cc : ByteArray} (C : ps_C X own cc) {M : ps_M} {pc : Nat} {l : List (Option Value)} {stk : List Value} {l0 l1 l2 l3 l4 l5 l6 : Option Value} {x : Int64} (hd : decode cc pc = .ok (.lload 7, 2)) (k : ps_G X M (pc + 2) (l0 :: l1 :: l2 :: l3 :: l4 :: l5 :: l6 :: some (.long x) :: l) (.long x :: stk)) : ps_G X M pc (l0 :: l1 :: l2 :: l3 :: l4 :: l5 :: l6 :: some (.long x) :: l) stk := fun H locs ls hP hR hS hl => lv_lload C.1 C.2.1 hd (hl.2.2.2 7 _ rfl) (k H locs ls hP hR hS hl)
theorem ps_lstore7 {X : ps_X} {own : String} {cc : ByteArray} (C : ps_C X own cc) {M : ps_M} {pc : Nat} {l : List (Option Value)} {stk : List Value} {l0 l1 l2 l3 l4 l5 l6 : Option Value} {z y : Option Value} {x : Int64} (hp : ps_n2 l6 = true) (hd : decode cc pc = .ok (.lstore 7, 2)) (k : ps_G X M (pc + 2) (l0 :: l1 :: l2 :: l3 :: l4 :: l5 :: l6 :: some (.long x) :: none :: l) stk) : ps_G X M pc (l0 :: l1 :: l2 :: l3 :: l4 :: l5 :: l6 :: z :: y :: l) (.long x :: stk) := fun H locs ls hP hR hS hl => lv_lstore C.1 C.2.1 hd (ps_lv_has hl) (by have := hl.1; simp only [List.length_cons] at this; omega) rfl (fun ls1 hl1 => k H locs ls1 hP hR hS (ps_lv_set2 hl (by have := hl.1; simp only [List.length_cons] at this; omega) (fun x h0 hx => by cases hx; exact hp) hl1))
theorem ps_iinc7 {X : ps_X} {own : String} {cc : ByteArray} (C : ps_C X own cc) {M : ps_M} {pc : Nat} {l : List (Option Value)} {stk : List Value} {l0 l1 l2 l3 l4 l5 l6 : Option Value} {x : Int32} {n : Int} (hp : ps_n2 l6 = true) (c : Int32) (hc : Int32.ofInt n = c) (hd : decode cc pc = .ok (.iinc 7 n, 3)) (k : ∀ y : Int32, y = x + c → ps_G X M (pc + 3) (l0 :: l1 :: l2 :: l3 :: l4 :: l5 :: l6 :: some (.int y) :: l) stk) : ps_G X M pc (l0 :: l1 :: l2 :: l3 :: l4 :: l5 :: l6 :: some (.int x) :: l) stk := fun H locs ls hP hR hS hl => by
  obtain ⟨q, hq⟩ := List.getElem?_of_mem (ps_pairs_in _ 0 7 (.int x) (show (l0 :: l1 :: l2 :: l3 :: l4 :: l5 :: l6 :: some (Value.int x) :: l : List (Option Value))[7]? = some (some (.int x)) from rfl))
  exact lv_iinc C.1 C.2.1 hd (ps_lv_has hl) hq (v := x + c) (by rw [hc]) (by have := hl.1; simp only [List.length_cons] at this; omega) rfl (fun ls1 hl1 => k _ rfl H locs ls1 hP hR hS (ps_lv_set hl (by have := hl.1; simp only [List.length_cons] at this; omega) (fun x h0 hx => by cases hx; exact hp) hl1))
theorem ps_iload8 {X : ps_X} {own : String} {cc : ByteArray} (C : ps_C X own cc) {M : ps_M} {pc : Nat} {l : List (Option Value)} {stk : List Value} {l0 l1 l2 l3 l4 l5 l6 l7 : Option Value} {x : Int32} (hd : decode cc pc = .ok (.iload 8, 2)) (k : ps_G X M (pc + 2) (l0 :: l1 :: l2 :: l3 :: l4 :: l5 :: l6 :: l7 :: some (.int x) :: l) (.int x :: stk)) : ps_G X M pc (l0 :: l1 :: l2 :: l3 :: l4 :: l5 :: l6 :: l7 :: some (.int x) :: l) stk := fun H locs ls hP hR hS hl => lv_iload C.1 C.2.1 hd (hl.2.2.2 8 _ rfl) (k H locs ls hP hR hS hl)
theorem ps_istore8 {X : ps_X} {own : String} {cc : ByteArray} (C : ps_C X own cc) {M : ps_M} {pc : Nat} {l : List (Option Value)} {stk : List Value} {l0 l1 l2 l3 l4 l5 l6 l7 : Option Value} {z : Option Value} {x : Int32} (hp : ps_n2 l7 = true) (hd : decode cc pc = .ok (.istore 8, 2)) (k : ps_G X M (pc + 2) (l0 :: l1 :: l2 :: l3 :: l4 :: l5 :: l6 :: l7 :: some (.int x) :: l) stk) : ps_G X M pc (l0 :: l1 :: l2 :: l3 :: l4 :: l5 :: l6 :: l7 :: z :: l) (.int x :: stk) := fun H locs ls hP hR hS hl => lv_istore C.1 C.2.1 hd (ps_lv_has hl) (by have := hl.1; simp only [List.length_cons] at this; omega) rfl (fun ls1 hl1 => k H locs ls1 hP hR hS (ps_lv_set hl (by have := hl.1; simp only [List.length_cons] at this; omega) (fun x h0 hx => by cases hx; exact hp) hl1))
theorem ps_aload8 {X : ps_X} {own : String} {cc : ByteArray} (C : ps_C X own cc) {M : ps_M} {pc : Nat} {l : List (Option Value)} {stk : List Value} {l0 l1 l2 l3 l4 l5 l6 l7 : Option Value} {x : Nat} (hd : decode cc pc = .ok (.aload 8, 2)) (k : ps_G X M (pc + 2) (l0 :: l1 :: l2 :: l3 :: l4 :: l5 :: l6 :: l7 :: some (.ref x) :: l) (.ref x :: stk)) : ps_G X M pc (l0 :: l1 :: l2 :: l3 :: l4 :: l5 :: l6 :: l7 :: some (.ref x) :: l) stk := fun H locs ls hP hR hS hl => lv_aload C.1 C.2.1 hd (hl.2.2.2 8 _ rfl) (k H locs ls hP hR hS hl)
theorem ps_astore8 {X : ps_X} {own : String} {cc : ByteArray} (C : ps_C X own cc) {M : ps_M} {pc : Nat} {l : List (Option Value)} {stk : List Value} {l0 l1 l2 l3 l4 l5 l6 l7 : Option Value} {z : Option Value} {x : Nat} (hp : ps_n2 l7 = true) (hd : decode cc pc = .ok (.astore 8, 2)) (k : ps_G X M (pc + 2) (l0 :: l1 :: l2 :: l3 :: l4 :: l5 :: l6 :: l7 :: some (.ref x) :: l) stk) : ps_G X M pc (l0 :: l1 :: l2 :: l3 :: l4 :: l5 :: l6 :: l7 :: z :: l) (.ref x :: stk) := fun H locs ls hP hR hS hl => lv_astore C.1 C.2.1 hd (ps_lv_has hl) (by have := hl.1; simp only [List.length_cons] at this; omega) rfl (fun ls1 hl1 => k H locs ls1 hP hR hS (ps_lv_set hl (by have := hl.1; simp only [List.length_cons] at this; omega) (fun x h0 hx => by cases hx; exact hp) hl1))
theorem ps_lload8 {X : ps_X} {own : String} {cc : ByteArray} (C : ps_C X own cc) {M : ps_M} {pc : Nat} {l : List (Option Value)} {stk : List Value} {l0 l1 l2 l3 l4 l5 l6 l7 : Option Value} {x : Int64} (hd : decode cc pc = .ok (.lload 8, 2)) (k : ps_G X M (pc + 2) (l0 :: l1 :: l2 :: l3 :: l4 :: l5 :: l6 :: l7 :: some (.long x) :: l) (.long x :: stk)) : ps_G X M pc (l0 :: l1 :: l2 :: l3 :: l4 :: l5 :: l6 :: l7 :: some (.long x) :: l) stk := fun H locs ls hP hR hS hl => lv_lload C.1 C.2.1 hd (hl.2.2.2 8 _ rfl) (k H locs ls hP hR hS hl)
theorem ps_lstore8 {X : ps_X} {own : String} {cc : ByteArray} (C : ps_C X own cc) {M : ps_M} {pc : Nat} {l : List (Option Value)} {stk : List Value} {l0 l1 l2 l3 l4 l5 l6 l7 : Option Value} {z y : Option Value} {x : Int64} (hp : ps_n2 l7 = true) (hd : decode cc pc = .ok (.lstore 8, 2)) (k : ps_G X M (pc + 2) (l0 :: l1 :: l2 :: l3 :: l4 :: l5 :: l6 :: l7 :: some (.long x) :: none :: l) stk) : ps_G X M pc (l0 :: l1 :: l2 :: l3 :: l4 :: l5 :: l6 :: l7 :: z :: y :: l) (.long x :: stk) := fun H locs ls hP hR hS hl => lv_lstore C.1 C.2.1 hd (ps_lv_has hl) (by have := hl.1; simp only [List.length_cons] at this; omega) rfl (fun ls1 hl1 => k H locs ls1 hP hR hS (ps_lv_set2 hl (by have := hl.1; simp only [List.length_cons] at this; omega) (fun x h0 hx => by cases hx; exact hp) hl1))
theorem ps_iinc8 {X : ps_X} {own : String} {cc : ByteArray} (C : ps_C X own cc) {M : ps_M} {pc : Nat} {l : List (Option Value)} {stk : List Value} {l0 l1 l2 l3 l4 l5 l6 l7 : Option Value} {x : Int32} {n : Int} (hp : ps_n2 l7 = true) (c : Int32) (hc : Int32.ofInt n = c) (hd : decode cc pc = .ok (.iinc 8 n, 3)) (k : ∀ y : Int32, y = x + c → ps_G X M (pc + 3) (l0 :: l1 :: l2 :: l3 :: l4 :: l5 :: l6 :: l7 :: some (.int y) :: l) stk) : ps_G X M pc (l0 :: l1 :: l2 :: l3 :: l4 :: l5 :: l6 :: l7 :: some (.int x) :: l) stk := fun H locs ls hP hR hS hl => by
  obtain ⟨q, hq⟩ := List.getElem?_of_mem (ps_pairs_in _ 0 8 (.int x) (show (l0 :: l1 :: l2 :: l3 :: l4 :: l5 :: l6 :: l7 :: some (Value.int x) :: l : List (Option Value))[8]? = some (some (.int x)) from rfl))
  exact lv_iinc C.1 C.2.1 hd (ps_lv_has hl) hq (v := x + c) (by rw [hc]) (by have := hl.1; simp only [List.length_cons] at this; omega) rfl (fun ls1 hl1 => k _ rfl H locs ls1 hP hR hS (ps_lv_set hl (by have := hl.1; simp only [List.length_cons] at this; omega) (fun x h0 hx => by cases hx; exact hp) hl1))
theorem ps_iload9 {X : ps_X} {own : String} {cc : ByteArray} (C : ps_C X own cc) {M : ps_M} {pc : Nat} {l : List (Option Value)} {stk : List Value} {l0 l1 l2 l3 l4 l5 l6 l7 l8 : Option Value} {x : Int32} (hd : decode cc pc = .ok (.iload 9, 2)) (k : ps_G X M (pc + 2) (l0 :: l1 :: l2 :: l3 :: l4 :: l5 :: l6 :: l7 :: l8 :: some (.int x) :: l) (.int x :: stk)) : ps_G X M pc (l0 :: l1 :: l2 :: l3 :: l4 :: l5 :: l6 :: l7 :: l8 :: some (.int x) :: l) stk := fun H locs ls hP hR hS hl => lv_iload C.1 C.2.1 hd (hl.2.2.2 9 _ rfl) (k H locs ls hP hR hS hl)
theorem ps_istore9 {X : ps_X} {own : String} {cc : ByteArray} (C : ps_C X own cc) {M : ps_M} {pc : Nat} {l : List (Option Value)} {stk : List Value} {l0 l1 l2 l3 l4 l5 l6 l7 l8 : Option Value} {z : Option Value} {x : Int32} (hp : ps_n2 l8 = true) (hd : decode cc pc = .ok (.istore 9, 2)) (k : ps_G X M (pc + 2) (l0 :: l1 :: l2 :: l3 :: l4 :: l5 :: l6 :: l7 :: l8 :: some (.int x) :: l) stk) : ps_G X M pc (l0 :: l1 :: l2 :: l3 :: l4 :: l5 :: l6 :: l7 :: l8 :: z :: l) (.int x :: stk) := fun H locs ls hP hR hS hl => lv_istore C.1 C.2.1 hd (ps_lv_has hl) (by have := hl.1; simp only [List.length_cons] at this; omega) rfl (fun ls1 hl1 => k H locs ls1 hP hR hS (ps_lv_set hl (by have := hl.1; simp only [List.length_cons] at this; omega) (fun x h0 hx => by cases hx; exact hp) hl1))
theorem ps_aload9 {X : ps_X} {own : String} {cc : ByteArray} (C : ps_C X own cc) {M : ps_M} {pc : Nat} {l : List (Option Value)} {stk : List Value} {l0 l1 l2 l3 l4 l5 l6 l7 l8 : Option Value} {x : Nat} (hd : decode cc pc = .ok (.aload 9, 2)) (k : ps_G X M (pc + 2) (l0 :: l1 :: l2 :: l3 :: l4 :: l5 :: l6 :: l7 :: l8 :: some (.ref x) :: l) (.ref x :: stk)) : ps_G X M pc (l0 :: l1 :: l2 :: l3 :: l4 :: l5 :: l6 :: l7 :: l8 :: some (.ref x) :: l) stk := fun H locs ls hP hR hS hl => lv_aload C.1 C.2.1 hd (hl.2.2.2 9 _ rfl) (k H locs ls hP hR hS hl)
theorem ps_astore9 {X : ps_X} {own : String} {cc : ByteArray} (C : ps_C X own cc) {M : ps_M} {pc : Nat} {l : List (Option Value)} {stk : List Value} {l0 l1 l2 l3 l4 l5 l6 l7 l8 : Option Value} {z : Option Value} {x : Nat} (hp : ps_n2 l8 = true) (hd : decode cc pc = .ok (.astore 9, 2)) (k : ps_G X M (pc + 2) (l0 :: l1 :: l2 :: l3 :: l4 :: l5 :: l6 :: l7 :: l8 :: some (.ref x) :: l) stk) : ps_G X M pc (l0 :: l1 :: l2 :: l3 :: l4 :: l5 :: l6 :: l7 :: l8 :: z :: l) (.ref x :: stk) := fun H locs ls hP hR hS hl => lv_astore C.1 C.2.1 hd (ps_lv_has hl) (by have := hl.1; simp only [List.length_cons] at this; omega) rfl (fun ls1 hl1 => k H locs ls1 hP hR hS (ps_lv_set hl (by have := hl.1; simp only [List.length_cons] at this; omega) (fun x h0 hx => by cases hx; exact hp) hl1))
theorem ps_lload9 {X : ps_X} {own : String} {cc : ByteArray} (C : ps_C X own cc) {M : ps_M} {pc : Nat} {l : List (Option Value)} {stk : List Value} {l0 l1 l2 l3 l4 l5 l6 l7 l8 : Option Value} {x : Int64} (hd : decode cc pc = .ok (.lload 9, 2)) (k : ps_G X M (pc + 2) (l0 :: l1 :: l2 :: l3 :: l4 :: l5 :: l6 :: l7 :: l8 :: some (.long x) :: l) (.long x :: stk)) : ps_G X M pc (l0 :: l1 :: l2 :: l3 :: l4 :: l5 :: l6 :: l7 :: l8 :: some (.long x) :: l) stk := fun H locs ls hP hR hS hl => lv_lload C.1 C.2.1 hd (hl.2.2.2 9 _ rfl) (k H locs ls hP hR hS hl)
theorem ps_lstore9 {X : ps_X} {own : String} {cc : ByteArray} (C : ps_C X own cc) {M : ps_M} {pc : Nat} {l : List (Option Value)} {stk : List Value} {l0 l1 l2 l3 l4 l5 l6 l7 l8 : Option Value} {z y : Option Value} {x : Int64} (hp : ps_n2 l8 = true) (hd : decode cc pc = .ok (.lstore 9, 2)) (k : ps_G X M (pc + 2) (l0 :: l1 :: l2 :: l3 :: l4 :: l5 :: l6 :: l7 :: l8 :: some (.long x) :: none :: l) stk) : ps_G X M pc (l0 :: l1 :: l2 :: l3 :: l4 :: l5 :: l6 :: l7 :: l8 :: z :: y :: l) (.long x :: stk) := fun H locs ls hP hR hS hl => lv_lstore C.1 C.2.1 hd (ps_lv_has hl) (by have := hl.1; simp only [List.length_cons] at this; omega) rfl (fun ls1 hl1 => k H locs ls1 hP hR hS (ps_lv_set2 hl (by have := hl.1; simp only [List.length_cons] at this; omega) (fun x h0 hx => by cases hx; exact hp) hl1))
theorem ps_iinc9 {X : ps_X} {own : String} {cc : ByteArray} (C : ps_C X own cc) {M : ps_M} {pc : Nat} {l : List (Option Value)} {stk : List Value} {l0 l1 l2 l3 l4 l5 l6 l7 l8 : Option Value} {x : Int32} {n : Int} (hp : ps_n2 l8 = true) (c : Int32) (hc : Int32.ofInt n = c) (hd : decode cc pc = .ok (.iinc 9 n, 3)) (k : ∀ y : Int32, y = x + c → ps_G X M (pc + 3) (l0 :: l1 :: l2 :: l3 :: l4 :: l5 :: l6 :: l7 :: l8 :: some (.int y) :: l) stk) : ps_G X M pc (l0 :: l1 :: l2 :: l3 :: l4 :: l5 :: l6 :: l7 :: l8 :: some (.int x) :: l) stk := fun H locs ls hP hR hS hl => by
  obtain ⟨q, hq⟩ := List.getElem?_of_mem (ps_pairs_in _ 0 9 (.int x) (show (l0 :: l1 :: l2 :: l3 :: l4 :: l5 :: l6 :: l7 :: l8 :: some (Value.int x) :: l : List (Option Value))[9]? = some (some (.int x)) from rfl))
  exact lv_iinc C.1 C.2.1 hd (ps_lv_has hl) hq (v := x + c) (by rw [hc]) (by have := hl.1; simp only [List.length_cons] at this; omega) rfl (fun ls1 hl1 => k _ rfl H locs ls1 hP hR hS (ps_lv_set hl (by have := hl.1; simp only [List.length_cons] at this; omega) (fun x h0 hx => by cases hx; exact hp) hl1))
/-- a number gets a name -/
theorem ps_nmi {X : ps_X} {M : ps_M} {pc : Nat} {lv : List (Option Value)} {stk : List Value} {x : Int32} (k : ∀ y : Int32, y = x → ps_G X M pc lv (.int y :: stk)) : ps_G X M pc lv (.int x :: stk) := k x rfl
theorem ps_nml {X : ps_X} {M : ps_M} {pc : Nat} {lv : List (Option Value)} {stk : List Value} {x : Int64} (k : ∀ y : Int64, y = x → ps_G X M pc lv (.long y :: stk)) : ps_G X M pc lv (.long x :: stk) := k x rfl
theorem ps_room {X : ps_X} {R : Room} {j n : Nat} (h : xR X = R) (h1 : j + 1 ≤ R.frames ∧ 8 + (n + 11) + 30 * j ≤ R.locals) : j + 1 ≤ (xR X).frames ∧ 8 + (n + 11) + 30 * j ≤ (xR X).locals := by rw [h]; exact h1
def ps_lvl (n : Nat) : Room := { frames := n, cells := 0, slots := 0, locals := 30 * n }
end
section
theorem inX0 : ∀ w ∈ wsX00, w ∈ ps_T := fun w h => List.mem_filter.mpr ⟨(by decide +kernel : ∀ w ∈ wsX00, w ∈ lw_tbl) w h, List.all_eq_true.mp (by decide +kernel : wsX00.all goodWord = true) w h⟩
theorem inX1 : ∀ w ∈ wsX10, w ∈ ps_T := fun w h => List.mem_filter.mpr ⟨(by decide +kernel : ∀ w ∈ wsX10, w ∈ lw_tbl) w h, List.all_eq_true.mp (by decide +kernel : wsX10.all goodWord = true) w h⟩
theorem inX2 : ∀ w ∈ wsX20, w ∈ ps_T := fun w h => List.mem_filter.mpr ⟨(by decide +kernel : ∀ w ∈ wsX20, w ∈ lw_tbl) w h, List.all_eq_true.mp (by decide +kernel : wsX20.all goodWord = true) w h⟩
theorem inX3 : ∀ w ∈ wsX30, w ∈ ps_T := fun w h => List.mem_filter.mpr ⟨(by decide +kernel : ∀ w ∈ wsX30, w ∈ lw_tbl) w h, List.all_eq_true.mp (by decide +kernel : wsX30.all goodWord = true) w h⟩
theorem inX4 : ∀ w ∈ wsX40, w ∈ ps_T := fun w h => List.mem_filter.mpr ⟨(by decide +kernel : ∀ w ∈ wsX40, w ∈ lw_tbl) w h, List.all_eq_true.mp (by decide +kernel : wsX40.all goodWord = true) w h⟩
theorem inX5 : ∀ w ∈ wsX50, w ∈ ps_T := fun w h => List.mem_filter.mpr ⟨(by decide +kernel : ∀ w ∈ wsX50, w ∈ lw_tbl) w h, List.all_eq_true.mp (by decide +kernel : wsX50.all goodWord = true) w h⟩
theorem inX6 : ∀ w ∈ wsX60, w ∈ ps_T := fun w h => List.mem_filter.mpr ⟨(by decide +kernel : ∀ w ∈ wsX60, w ∈ lw_tbl) w h, List.all_eq_true.mp (by decide +kernel : wsX60.all goodWord = true) w h⟩
theorem inX7 : ∀ w ∈ wsX70, w ∈ ps_T := fun w h => List.mem_filter.mpr ⟨(by decide +kernel : ∀ w ∈ wsX70, w ∈ lw_tbl) w h, List.all_eq_true.mp (by decide +kernel : wsX70.all goodWord = true) w h⟩
theorem ps_get {X : ps_X} {own : String} {cc : ByteArray} (C : ps_C X own cc) {M : ps_M} {pc : Nat} {lv : List (Option Value)} {stk : List Value} {κ a ci idx slot N : Nat} {fs : List Value} {CN : String} {T : u_T} {v : Value} (hk : ps_ck κ a = true) (hE : ps_cel (xb X) (xD X) κ a (M.1 a) M.2 = .inr (ci, fs)) (hc : vwCl[ci]? = some (CN, T, N)) (hin : ∀ w ∈ u_ws CN T N, w ∈ ps_T) (hs : slot < N) (hm : Cond.fieldLink own idx CN (T slot).2.1 (T slot).2.2.1 ∈ ps_T) (hx : (T slot).1 = CN) (hv : fs[slot]? = some v) (hd : decode cc pc = .ok (.getfield idx, 3)) (k : ps_G X M (pc + 3) lv (v :: stk)) : ps_G X M pc lv (.ref (xb X + a) :: stk) := fun H locs ls hP hR hS hl => va_get C.1 C.2.1 (Ts := ps_T) C.2.2.2.2.1 hin C.2.2.2.1 C.2.2.2.2.2.1.1 hP a (by rw [ps_wl_get hk, hE]) hc slot hs (C.2.2.2.2.1 _ hm) (fun x h => hx ▸ h) hv hd (k H locs ls hP hR hS hl)
theorem ps_put {X : ps_X} {own : String} {cc : ByteArray} (C : ps_C X own cc) {M : ps_M} {pc : Nat} {lv : List (Option Value)} {stk : List Value} {κ a ci idx slot N : Nat} {fs : List Value} {CN : String} {T : u_T} {v : Value} {ty : FieldType} {ty0 : Nat → FieldType} (M1 : ps_M) (hk : ps_ck κ a = true) (hE : ps_cel (xb X) (xD X) κ a (M.1 a) M.2 = .inr (ci, fs)) (hE1 : ps_cel (xb X) (xD X) κ a (M1.1 a) M1.2 = .inr (ci, fs.set slot v)) (ho : ∀ k, k < 425 → k ≠ a → ps_cel (xb X) (xD X) (ps_kn k) k (M1.1 k) M1.2 = ps_cel (xb X) (xD X) (ps_kn k) k (M.1 k) M.2) (hro : ps_ro M → ps_ro M1) (hc : vwCl[ci]? = some (CN, T, N)) (hin : ∀ w ∈ u_ws CN T N, w ∈ ps_T) (hty : ∀ k, k < N → parseFieldDescriptor (T k).2.2.1 = some (ty0 k)) (hnm : ∀ a, a < N → ∀ b, b < N → a ≠ b → (T a).2.1 ≠ (T b).2.1) (hs : slot < N) (hm : Cond.fieldLink own idx CN (T slot).2.1 (T slot).2.2.1 ∈ ps_T) (hx : (T slot).1 = CN) (hfin : (T slot).2.2.2 = false) (hpd : parseFieldDescriptor (T slot).2.2.1 = some ty) (hn : narrow ty v = v) (hf : fits ty v = true) (hl : slot < fs.length) (hd : decode cc pc = .ok (.putfield idx, 3)) (k : ps_G X M1 (pc + 3) lv stk) : ps_G X M pc lv (v :: .ref (xb X + a) :: stk) := fun H locs ls hP hR hS hls => va_put C.1 C.2.1 (Ts := ps_T) C.2.2.2.2.1 hin ty0 hty hnm C.2.2.2.1 C.2.2.2.2.2.1.1 hP ps_wl_D hS a (by rw [ps_wl_get hk, hE]) hc slot hs (C.2.2.2.2.1 _ hm) (fun x h => hx ▸ h) hfin hpd hn hf hl hd (fun H1 locs1 hP1 hD1 hS1 => k H1 locs1 ls (by rw [ps_wl_set hk hE1 ho] at hP1; exact hP1) (hro hR) hS1 hls)
theorem ps_cel_r {b : Nat} {D : va_G} {κ k : Nat} {f : Nat → Int32} {r r1 : Nat → Nat} (h1 : κ = 12 → r1 6 = r 6) (h2 : κ = 13 → ∀ j, j < 6 → r1 j = r j) : ps_cel b D κ k f r1 = ps_cel b D κ k f r := by
  by_cases e1 : κ = 12
  · subst e1
    show (Sum.inr _ : va_E) = Sum.inr _
    rw [h1 rfl]
  · by_cases e2 : κ = 13
    · subst e2
      have : (fun j => if j < 6 then some (b + r1 j) else none) = (fun j => if j < 6 then some (b + r j) else none) := by
        funext j
        by_cases hj : j < 6
        · rw [if_pos hj, if_pos hj, h2 rfl j hj]
        · rw [if_neg hj, if_neg hj]
      show (Sum.inl (D.1 14, 6, .inr (.inr (.inr (.inr (fun j => if j < 6 then some (b + r1 j) else none))))) : va_E) = Sum.inl _
      rw [this]
    · unfold ps_cel
      split <;> first | rfl | contradiction
theorem ps_one12 : ∀ k, k < 425 → ps_kn k = 12 → k = 41 := by decide +kernel
theorem ps_one13 : ∀ k, k < 425 → ps_kn k = 13 → k = 42 := by decide +kernel
theorem ps_sr_ho {M : ps_M} {j h a : Nat} {b : Nat} {D : va_G} (ha : (j = 6 ∧ ps_ck 12 a = true) ∨ (j < 6 ∧ ps_ck 13 a = true)) : ∀ k, k < 425 → k ≠ a → ps_cel b D (ps_kn k) k ((ps_sr M j h).1 k) (ps_sr M j h).2 = ps_cel b D (ps_kn k) k (M.1 k) M.2 := fun k hk hne => by
  refine ps_cel_r (fun e => ?_) (fun e q hq => ?_)
  · show (if 6 = j then h else M.2 6) = M.2 6
    rcases ha with ⟨h1, h2⟩ | ⟨h1, h2⟩
    · exact absurd ((ps_one12 k hk e).trans (ps_one12 a (ps_ck_lt h2) (ps_ck_kn h2)).symm) hne
    · rw [if_neg (by omega)]
  · show (if q = j then h else M.2 q) = M.2 q
    rcases ha with ⟨h1, h2⟩ | ⟨h1, h2⟩
    · rw [if_neg (by omega)]
    · exact absurd ((ps_one13 k hk e).trans (ps_one13 a (ps_ck_lt h2) (ps_ck_kn h2)).symm) hne
theorem ps_sr_ro {M : ps_M} {j h : Nat} (hh : ps_ck 1 h = true) (hR : ps_ro M) : ps_ro (ps_sr M j h) := fun q hq => by
  show ps_ck 1 (if q = j then h else M.2 q) = true
  by_cases e : q = j
  · rw [if_pos e]; exact hh
  · rw [if_neg e]; exact hR q hq
theorem ps_ref_ty {C : String} {a : Nat} : narrow (.object C) (.ref a) = .ref a ∧ fits (.object C) (.ref a) = true := ⟨rfl, rfl⟩
theorem ps_iald {X : ps_X} {own : String} {cc : ByteArray} (C : ps_C X own cc) {M : ps_M} {pc : Nat} {lv : List (Option Value)} {stk : List Value} {κ a n : Nat} {i : Int32} (hk : ps_ck κ a = true) (hE : ∀ f r, ps_cel (xb X) (xD X) κ a f r = .inl ((xD X).1 10, n, .inl f)) (hi : ps_inB i n = true) (hd : decode cc pc = .ok (.iaload, 1)) (k : ps_G X M (pc + 1) lv (.int (ps_rd M a i.toNatClampNeg) :: stk)) : ps_G X M pc lv (.int i :: .ref (xb X + a) :: stk) := fun H locs ls hP hR hS hl => va_iald C.1 C.2.1 C.2.2.2.2.2.1.1 hP a 0 (f := M.1 a) (by rw [ps_wl_get hk, hE]) rfl (ps_inB_in hi) hd (k H locs ls hP hR hS hl)
theorem ps_iast {X : ps_X} {own : String} {cc : ByteArray} (C : ps_C X own cc) {M : ps_M} {pc : Nat} {lv : List (Option Value)} {stk : List Value} {κ a n : Nat} {i x : Int32} (hk : ps_ck κ a = true) (hE : ∀ f r, ps_cel (xb X) (xD X) κ a f r = .inl ((xD X).1 10, n, .inl f)) (hi : ps_inB i n = true) (hd : decode cc pc = .ok (.iastore, 1)) (k : ∀ M1, M1 = ps_st M a i.toNatClampNeg x → ps_G X M1 (pc + 1) lv stk) : ps_G X M pc lv (.int x :: .int i :: .ref (xb X + a) :: stk) := fun H locs ls hP hR hS hl => va_iast C.1 C.2.1 C.2.2.2.2.2.1.1 hP ps_wl_D hS a 0 (by rw [ps_wl_get hk, hE]) rfl (ps_inB_in hi) hd (fun H1 locs1 hP1 hD1 hS1 => k _ rfl H1 locs1 ls (by
  rw [ps_wl_set hk (M1 := ps_st M a i.toNatClampNeg x) (by rw [hE, ps_st_self]; rfl) ps_st_ho] at hP1; exact hP1) hR hS1 hl)
theorem ps_cald {X : ps_X} {own : String} {cc : ByteArray} (C : ps_C X own cc) {M : ps_M} {pc : Nat} {lv : List (Option Value)} {stk : List Value} {κ a n : Nat} {i : Int32} (hk : ps_ck κ a = true) (hE : ∀ f r, ps_cel (xb X) (xD X) κ a f r = .inl ((xD X).1 11, n, .inl f)) (hi : ps_inB i n = true) (hd : decode cc pc = .ok (.caload, 1)) (k : ps_G X M (pc + 1) lv (.int (ps_rd M a i.toNatClampNeg) :: stk)) : ps_G X M pc lv (.int i :: .ref (xb X + a) :: stk) := fun H locs ls hP hR hS hl => va_cald C.1 C.2.1 C.2.2.2.2.2.1.1 hP a 1 (f := M.1 a) (by rw [ps_wl_get hk, hE]) rfl (ps_inB_in hi) hd (k H locs ls hP hR hS hl)
theorem ps_cast {X : ps_X} {own : String} {cc : ByteArray} (C : ps_C X own cc) {M : ps_M} {pc : Nat} {lv : List (Option Value)} {stk : List Value} {κ a n : Nat} {i x : Int32} (hk : ps_ck κ a = true) (hE : ∀ f r, ps_cel (xb X) (xD X) κ a f r = .inl ((xD X).1 11, n, .inl f)) (hi : ps_inB i n = true) (hx : ps_isC x = true) (hd : decode cc pc = .ok (.castore, 1)) (k : ∀ M1, M1 = ps_st M a i.toNatClampNeg x → ps_G X M1 (pc + 1) lv stk) : ps_G X M pc lv (.int x :: .int i :: .ref (xb X + a) :: stk) := fun H locs ls hP hR hS hl => va_cast C.1 C.2.1 C.2.2.2.2.2.1.1 hP ps_wl_D hS a 1 (by rw [ps_wl_get hk, hE]) rfl (ps_inB_in hi) hd (fun H1 locs1 hP1 hD1 hS1 => k _ rfl H1 locs1 ls (by
  rw [show vp_nar .char x = x by unfold vp_nar; rw [(ps_isC_n hx).1]] at hP1; rw [ps_wl_set hk (M1 := ps_st M a i.toNatClampNeg x) (by rw [hE, ps_st_self]; rfl) ps_st_ho] at hP1; exact hP1) hR hS1 hl)
theorem ps_zald {X : ps_X} {own : String} {cc : ByteArray} (C : ps_C X own cc) {M : ps_M} {pc : Nat} {lv : List (Option Value)} {stk : List Value} {κ a n : Nat} {i : Int32} (hk : ps_ck κ a = true) (hE : ∀ f r, ps_cel (xb X) (xD X) κ a f r = .inl ((xD X).1 12, n, .inl f)) (hi : ps_inB i n = true) (hd : decode cc pc = .ok (.baload, 1)) (k : ps_G X M (pc + 1) lv (.int (ps_rd M a i.toNatClampNeg) :: stk)) : ps_G X M pc lv (.int i :: .ref (xb X + a) :: stk) := fun H locs ls hP hR hS hl => va_zald C.1 C.2.1 C.2.2.2.2.2.1.1 hP a 2 (f := M.1 a) (by rw [ps_wl_get hk, hE]) rfl (ps_inB_in hi) hd (k H locs ls hP hR hS hl)
theorem ps_zast {X : ps_X} {own : String} {cc : ByteArray} (C : ps_C X own cc) {M : ps_M} {pc : Nat} {lv : List (Option Value)} {stk : List Value} {κ a n : Nat} {i x : Int32} (hk : ps_ck κ a = true) (hE : ∀ f r, ps_cel (xb X) (xD X) κ a f r = .inl ((xD X).1 12, n, .inl f)) (hi : ps_inB i n = true) (hx : ps_isB x = true) (hd : decode cc pc = .ok (.bastore, 1)) (k : ∀ M1, M1 = ps_st M a i.toNatClampNeg x → ps_G X M1 (pc + 1) lv stk) : ps_G X M pc lv (.int x :: .int i :: .ref (xb X + a) :: stk) := fun H locs ls hP hR hS hl => va_zast C.1 C.2.1 C.2.2.2.2.2.1.1 hP ps_wl_D hS a 2 (by rw [ps_wl_get hk, hE]) rfl (ps_inB_in hi) hd (fun H1 locs1 hP1 hD1 hS1 => k _ rfl H1 locs1 ls (by
  rw [show vp_nar .boolean x = x by unfold vp_nar; rw [ps_isB_n hx]] at hP1; rw [ps_wl_set hk (M1 := ps_st M a i.toNatClampNeg x) (by rw [hE, ps_st_self]; rfl) ps_st_ho] at hP1; exact hP1) hR hS1 hl)
theorem ps_aldI {X : ps_X} {own : String} {cc : ByteArray} (C : ps_C X own cc) {M : ps_M} {pc : Nat} {lv : List (Option Value)} {stk : List Value} {κ a n : Nat} {i : Int32} {F : Nat → Nat} (hk : ps_ck κ a = true) (hE : ps_cel (xb X) (xD X) κ a (M.1 a) M.2 = .inl ((xD X).1 13, n, .inr (.inr (.inr (.inr (fun j => some (F j))))))) (hi : ps_inB i n = true) (hd : decode cc pc = .ok (.aaload, 1)) (k : ps_G X M (pc + 1) lv (.ref (F i.toNatClampNeg) :: stk)) : ps_G X M pc lv (.int i :: .ref (xb X + a) :: stk) := fun H locs ls hP hR hS hl => by
  have hin := ps_inB_in hi
  have hlt : i.toNatClampNeg < n := Nat.not_le.mp fun q => hin (Or.inr q)
  have hc : H[xb X + a]? = some (vp_cell ((xD X).1 13) (n, .inr (.inr (.inr (.inr (fun j => some (F j))))))) := hP a (xb X + a, .inl ((xD X).1 13, n, .inr (.inr (.inr (.inr (fun j => some (F j))))))) (by rw [ps_wl_get hk, hE])
  exact W.aald (v := .ref (F i.toNatClampNeg)) (ty := .array .int) C.1 C.2.1 hc ((C.2.2.2.2.2.1.1.2 3 _ rfl).1 n (fun j => va_rf (some (F j)))) rfl (fun q => by cases q) (by show ¬ (i < 0 ∨ (arrV _ _ _).slots.size ≤ _); rw [arrV_size]; exact hin) (by show (arrV _ _ _).slots[_]? = _; rw [arrV_read _ _ hlt]; rfl) rfl rfl hd (k H locs ls hP hR hS hl)
theorem ps_aldO {X : ps_X} {own : String} {cc : ByteArray} (C : ps_C X own cc) {M : ps_M} {pc : Nat} {lv : List (Option Value)} {stk : List Value} {κ a n c t0 : Nat} {E : String} {i : Int32} {F : Nat → Option Nat} {q : Nat} (hk : ps_ck κ a = true) (hE : ps_cel (xb X) (xD X) κ a (M.1 a) M.2 = .inl ((xD X).1 c, n, .inr (.inr (.inr (.inr F))))) (ht : (ps_tys (xD X))[t0]? = some ((xD X).1 c, .object E)) (hi : ps_inB i n = true) (hq : F i.toNatClampNeg = some q) (hd : decode cc pc = .ok (.aaload, 1)) (k : ps_G X M (pc + 1) lv (.ref q :: stk)) : ps_G X M pc lv (.int i :: .ref (xb X + a) :: stk) := fun H locs ls hP hR hS hl => va_aldq C.1 C.2.1 C.2.2.2.2.2.1.1 hP a t0 (by rw [ps_wl_get hk, hE]) ht (ps_inB_in hi) hd (by rw [hq]; exact k H locs ls hP hR hS hl)
theorem ps_inB_lt {i : Int32} {n : Nat} (h : ps_inB i n = true) : i.toNatClampNeg < n := Nat.not_le.mp fun q => ps_inB_in h (Or.inr q)
theorem ps_ald4 {X : ps_X} {own : String} {cc : ByteArray} (C : ps_C X own cc) {M : ps_M} {pc : Nat} {lv : List (Option Value)} {stk : List Value} {a : Nat} {i : Int32} (hk : ps_ck 4 a = true) (hi : ps_inB i 8 = true) (hd : decode cc pc = .ok (.aaload, 1)) (k : ps_G X M (pc + 1) lv (.ref (xb X + (a + 1 + i.toNatClampNeg)) :: stk)) : ps_G X M pc lv (.int i :: .ref (xb X + a) :: stk) := ps_aldI C (F := fun j => xb X + (a + 1 + j)) hk rfl hi hd k
theorem ps_ald10 {X : ps_X} {own : String} {cc : ByteArray} (C : ps_C X own cc) {M : ps_M} {pc : Nat} {lv : List (Option Value)} {stk : List Value} {a : Nat} {i : Int32} (hk : ps_ck 10 a = true) (hi : ps_inB i 4 = true) (hd : decode cc pc = .ok (.aaload, 1)) (k : ps_G X M (pc + 1) lv (.ref (xb X + (a + 1 + i.toNatClampNeg)) :: stk)) : ps_G X M pc lv (.int i :: .ref (xb X + a) :: stk) := ps_aldI C (F := fun j => xb X + (a + 1 + j)) hk rfl hi hd k
theorem ps_ald7 {X : ps_X} {own : String} {cc : ByteArray} (C : ps_C X own cc) {M : ps_M} {pc : Nat} {lv : List (Option Value)} {stk : List Value} {a : Nat} {i : Int32} (hk : ps_ck 7 a = true) (hi : ps_inB i 4 = true) (hd : decode cc pc = .ok (.aaload, 1)) (k : ps_G X M (pc + 1) lv (.ref (xb X + (a + 2 + 6 * i.toNatClampNeg)) :: stk)) : ps_G X M pc lv (.int i :: .ref (xb X + a) :: stk) := ps_aldO C (c := 15) (t0 := 5) hk rfl rfl hi rfl hd k
theorem ps_ald18 {X : ps_X} {own : String} {cc : ByteArray} (C : ps_C X own cc) {M : ps_M} {pc : Nat} {lv : List (Option Value)} {stk : List Value} {a : Nat} {i : Int32} (hk : ps_ck 18 a = true) (hi : ps_inB i 2 = true) (hd : decode cc pc = .ok (.aaload, 1)) (k : ps_G X M (pc + 1) lv (.ref (xb X + (a + 8 + 40 * i.toNatClampNeg)) :: stk)) : ps_G X M pc lv (.int i :: .ref (xb X + a) :: stk) := ps_aldO C (c := 14) (t0 := 4) hk rfl rfl hi rfl hd k
theorem ps_ald13 {X : ps_X} {own : String} {cc : ByteArray} (C : ps_C X own cc) {M : ps_M} {pc : Nat} {lv : List (Option Value)} {stk : List Value} {a : Nat} {i : Int32} (hk : ps_ck 13 a = true) (hi : ps_inB i 6 = true) (hd : decode cc pc = .ok (.aaload, 1)) (k : ps_ck 1 (ps_rr M i.toNatClampNeg) = true → ps_G X M (pc + 1) lv (.ref (xb X + ps_rr M i.toNatClampNeg) :: stk)) : ps_G X M pc lv (.int i :: .ref (xb X + a) :: stk) := fun H locs ls hP hR hS hl => ps_aldO C (c := 14) (t0 := 4) hk rfl rfl hi (if_pos (ps_inB_lt hi)) hd (k (hR _ (Nat.lt_succ_of_lt (ps_inB_lt hi)))) H locs ls hP hR hS hl
theorem ps_ast13 {X : ps_X} {own : String} {cc : ByteArray} (C : ps_C X own cc) {M : ps_M} {pc : Nat} {lv : List (Option Value)} {stk : List Value} {a h : Nat} {i : Int32} (hk : ps_ck 13 a = true) (hi : ps_inB i 6 = true) (hh : ps_ck 1 h = true) (hd : decode cc pc = .ok (.aastore, 1)) (k : ∀ M1, M1 = ps_sr M i.toNatClampNeg h → ps_G X M1 (pc + 1) lv stk) : ps_G X M pc lv (.ref (xb X + h) :: .int i :: .ref (xb X + a) :: stk) := fun H locs ls hP hR hS hl => by
  have hlt := ps_inB_lt hi
  refine va_astq (r := (RX1, TX1, 6)) C.1 C.2.1 C.2.2.2.2.2.1.1 hP ps_wl_D hS a 4 h 1 (ps_wl_get hk) rfl (ps_wl_get hh) rfl (ps_inB_in hi) hd (fun H1 locs1 hP1 hD1 hS1 => k _ rfl H1 locs1 ls ?_ (ps_sr_ro hh hR) hS1 hl)
  rw [ps_wl_set hk (M1 := ps_sr M i.toNatClampNeg h) ?_ (ps_sr_ho (Or.inr ⟨hlt, hk⟩))] at hP1
  · exact hP1
  · have : (fun j => if j < 6 then some (xb X + (ps_sr M i.toNatClampNeg h).2 j) else none) = va_up (fun j => if j < 6 then some (xb X + M.2 j) else none) i.toNatClampNeg (some (xb X + h)) := by
      funext j
      by_cases hj : j = i.toNatClampNeg
      · subst hj
        simp [va_up, ps_sr, hlt]
      · simp [va_up, ps_sr, hj]
    show (Sum.inl ((xD X).1 14, 6, .inr (.inr (.inr (.inr (fun j => if j < 6 then some (xb X + (ps_sr M i.toNatClampNeg h).2 j) else none))))) : va_E) = Sum.inl _
    rw [this]
/-- System.arraycopy between two rows of ints -/
theorem ps_copy {X : ps_X} {own : String} {cc : ByteArray} (C : ps_C X own cc) {M : ps_M} {pc : Nat} {lv : List (Option Value)} {stk : List Value} {κ κ1 a a1 n0 n1 idx : Nat} {sp dp n : Int32} (hk : ps_ck κ a = true) (hE : ∀ f r, ps_cel (xb X) (xD X) κ a f r = .inl ((xD X).1 10, n0, .inl f)) (hk1 : ps_ck κ1 a1 = true) (hE1 : ∀ f r, ps_cel (xb X) (xD X) κ1 a1 f r = .inl ((xD X).1 10, n1, .inl f)) (hw : Cond.methodLink own idx arraycopyName ∈ ps_T ∧ Cond.native arraycopyName ∈ ps_T ∧ Cond.static arraycopyName ∈ ps_T ∧ Cond.initialized "java/lang/System" ∈ ps_T) (ho : ps_cpO sp dp n n0 n1 = true) (hf : 1 ≤ (xR X).frames) (hlo : (stk.map fun v => v.category).sum + (nativeFrameWords "java/lang/System" "arraycopy" 5 + 11) ≤ (xR X).locals) (hd : decode cc pc = .ok (.invokestatic idx, 3)) (k : ∀ M1, M1 = ps_cp M a sp.toNatClampNeg a1 dp.toNatClampNeg n.toNatClampNeg → ps_G X M1 (pc + 3) lv stk) : ps_G X M pc lv (.int n :: .int dp :: .ref (xb X + a1) :: .int sp :: .ref (xb X + a) :: stk) := fun H locs ls hP hR hS hl => by
  obtain ⟨o1, o2, o3, o4, o5⟩ := ps_cpO_s ho
  refine va_copyi C.1 C.2.1 (C.2.2.1.trans hl.2.1.symm) C.2.2.2.1 (C.2.2.2.2.1 _ hw.1) (C.2.2.2.2.1 _ hw.2.1) (C.2.2.2.2.1 _ hw.2.2.1) (C.2.2.2.2.1 _ hw.2.2.2) C.2.2.2.2.2.1.1 hP ps_wl_D hS a a1 0 0 (by rw [ps_wl_get hk, hE]) (by rw [ps_wl_get hk1, hE1]) rfl rfl rfl o1 o2 o3 o4 o5 (fun _ _ => rfl) hf hlo hd (fun H1 locs1 hP1 hD1 hS1 => k _ rfl H1 locs1 ls ?_ hR hS1 hl)
  rw [ps_wl_set hk1 (M1 := ps_cp M a sp.toNatClampNeg a1 dp.toNatClampNeg n.toNatClampNeg) (by rw [hE1, ps_cp_self]) ps_cp_ho] at hP1
  exact hP1
/-! static arrays -/
theorem ps_sget {X : ps_X} {own : String} {cc : ByteArray} (C : ps_C X own cc) {M : ps_M} {pc : Nat} {lv : List (Option Value)} {stk : List Value} {idx : Nat} {fn : String} {f : Nat → Int32} (hz : ps_K (xb X) (xD X) (xs X) → ∃ t, va_Z RX6 fn "[I" (.ref t) (ps_A (xb X)) (xs X) (xs X).heap ∧ va_T .int t 4 (fun j => .int (f j)) (ps_A (xb X)) (xs X) (xs X).heap) (hn : ps_K (xb X) (xD X) (xs X) → va_Nw (.fieldLinkNest own idx RX6 fn "[I" RX6) (xs X)) (hd : decode cc pc = .ok (.getstatic idx, 3)) (k : ∀ t, va_T .int t 4 (fun j => .int (f j)) (ps_A (xb X)) (xs X) (xs X).heap → ps_G X M (pc + 3) lv (.ref t :: stk)) : ps_G X M pc lv stk := fun H locs ls hP hR hS hl => by
  obtain ⟨t, h1, h2⟩ := hz C.2.2.2.2.2.1
  exact va_getsN C.1 C.2.1 h1 hS C.2.2.2.1 (va_Nw.use rfl (hn C.2.2.2.2.2.1)) (fun _ h => h) hd (k t h2 H locs ls hP hR hS hl)
theorem ps_sald {X : ps_X} {own : String} {cc : ByteArray} (C : ps_C X own cc) {M : ps_M} {pc : Nat} {lv : List (Option Value)} {stk : List Value} {t : Nat} {f : Nat → Int32} {i : Int32} (ht : va_T .int t 4 (fun j => .int (f j)) (ps_A (xb X)) (xs X) (xs X).heap) (hi : ps_inB i 4 = true) (hd : decode cc pc = .ok (.iaload, 1)) (k : ps_G X M (pc + 1) lv (.int (f i.toNatClampNeg) :: stk)) : ps_G X M pc lv (.int i :: .ref t :: stk) := fun H locs ls hP hR hS hl => by
  obtain ⟨cell, h1, h2, h3, h4, h5, h6, h7⟩ := ht
  have hlt := ps_inB_lt hi
  have h0 := ps_inB_in hi
  exact W.iald (v := .int (f i.toNatClampNeg)) C.1 C.2.1 (by rw [hS.2.1 t (Array.getElem?_eq_some_iff.mp h1).1 h7]; exact h1) h2 h3 (fun q => by rcases q with q | q; exact h0 (Or.inl q); omega) (h6 _ hlt) rfl rfl hd (k H locs ls hP hR hS hl)
/-! calls -/
def ps_cwV (own : String) (idx : Nat) (CN : String) (y : MethodName) (bytes : ByteArray) (maxL : Nat) (ret : Option FieldType) (n : Nat) : Prop := (Cond.methodLink own idx y ∈ ps_T ∧ Cond.instanceMethod y ∈ ps_T ∧ Cond.selects CN y y ∈ ps_T ∧ Cond.initialized y.cls ∈ ps_T ∧ Cond.code y bytes maxL ret ∈ ps_T) ∧ (y.cls ≠ "java/lang/invoke/MethodHandle" ∧ y.cls ≠ "java/lang/invoke/VarHandle") ∧ (parseMethodDescriptor y.desc).map (fun d => d.parameters.length) = some n
def ps_cwS (own : String) (idx : Nat) (y : MethodName) (bytes : ByteArray) (maxL : Nat) (ret : Option FieldType) (n : Nat) : Prop := (Cond.methodLink own idx y ∈ ps_T ∧ Cond.static y ∈ ps_T ∧ Cond.initialized y.cls ∈ ps_T ∧ Cond.code y bytes maxL ret ∈ ps_T) ∧ (y.cls ≠ "java/lang/invoke/MethodHandle" ∧ y.cls ≠ "java/lang/invoke/VarHandle") ∧ (parseMethodDescriptor y.desc).map (fun d => d.parameters.length) = some n
def ps_rc (κ : Nat) (CN : String) : Prop := ∃ (ci : Nat) (T : u_T) (N : Nat), vwCl[ci]? = some (CN, T, N) ∧ ∀ (b : Nat) (D : va_G) (a : Nat) (f : Nat → Int32) (r : Nat → Nat), ∃ fs, ps_cel b D κ a f r = .inr (ci, fs)
abbrev ps_Qi (b : Nat) (D : va_G) (M1 : ps_M) (r : Int32) : Array Value → State → Outcome → State → Prop := va_Qi (fun (r' : Int32) (u : ps_M) => r' = r ∧ u = M1) (fun u U => ps_W b D u U) (ps_A b)
abbrev ps_Qv (b : Nat) (D : va_G) (M1 : ps_M) : Array Value → State → Outcome → State → Prop := va_Qv (fun (u : ps_M) => u = M1) (fun u U => ps_W b D u U) (ps_A b)
/-- a method's contract: from the memory M with these arguments it returns r, and leaves the memory M1 -/
abbrev ps_Ti (l : Launch) (b : Nat) (D : va_G) (y : MethodName) (cc : ByteArray) (maxL : Nat) (ty : FieldType) (j : Nat) (As : List Value) (M : ps_M) (r : Int32) (M1 : ps_M) : Prop := Met l y (ps_ws y cc maxL (some ty)) (ps_lvl j) (va_Pc As (ps_W b D M)) (ps_Qi b D M1 r) 0 0 (ps_A b)
abbrev ps_Tv (l : Launch) (b : Nat) (D : va_G) (y : MethodName) (cc : ByteArray) (maxL : Nat) (j : Nat) (As : List Value) (M : ps_M) (M1 : ps_M) : Prop := Met l y (ps_ws y cc maxL none) (ps_lvl j) (va_Pc As (ps_W b D M)) (ps_Qv b D M1) 0 0 (ps_A b)
theorem ps_blind {As : List Value} {b : Nat} {D : va_G} {M : ps_M} : FrameBlind (va_Pc As (ps_W b D M)) := fun a U g mk q => by
  obtain ⟨q0, q1, q2, q3, ⟨q4, q5, q6⟩, q7⟩ := q
  exact ⟨q0, q1, q2, va_K.moved (u := U) (U := U.calling g mk a) (Vm.Alike.refl U.vm) q3, ⟨va_Nw.same rfl (rfl : U.vm = (U.calling g mk a).vm) q4, va_Nw.same rfl (rfl : U.vm = (U.calling g mk a).vm) q5, va_Nw.same rfl (rfl : U.vm = (U.calling g mk a).vm) q6⟩, ps_Z_kept (Vm.Alike.refl U.vm) q7 (fun _ _ _ => rfl)⟩
theorem ps_cb {X : ps_X} {own : String} {cc : ByteArray} (C : ps_C X own cc) {idx j maxL n : Nat} {y : MethodName} {bytes : ByteArray} {ret : Option FieldType} (h1 : Cond.methodLink own idx y ∈ ps_T) (h2 : Cond.initialized y.cls ∈ ps_T) (h3 : Cond.code y bytes maxL ret ∈ ps_T) (h4 : y.cls ≠ "java/lang/invoke/MethodHandle" ∧ y.cls ≠ "java/lang/invoke/VarHandle") (h5 : (parseMethodDescriptor y.desc).map (fun d => d.parameters.length) = some n) (hR : j + 1 ≤ (xR X).frames ∧ 8 + (maxL + 11) + 30 * j ≤ (xR X).locals) : CallB (xR X) (xs X) (xa X) own idx y bytes maxL ret (ps_ws y bytes maxL ret) (ps_lvl j) 0 0 n := callB_of n C.2.2.2.2.1 (ps_good h3) rfl rfl rfl (C.2.2.2.2.1 _ h2) (C.2.2.2.2.1 _ h1) ⟨h4.1, h4.2, h5⟩ hR
theorem ps_goV_i {X : ps_X} {own : String} {cc : ByteArray} (C : ps_C X own cc) {M : ps_M} {pc : Nat} {lv : List (Option Value)} {stk : List Value} {y : MethodName} {bytes : ByteArray} {maxL idx n κ a j : Nat} {ty : FieldType} {CN : String} {As rest : List Value} {M1 : ps_M} {r : Int32} (hM : ps_Ti (xl X) (xb X) (xD X) y bytes maxL ty j (.ref (xb X + a) :: As) M r M1) (hw : ps_cwV own idx CN y bytes maxL (some ty) n) (hv : ps_rc κ CN) (hk : ps_ck κ a = true) (hR : j + 1 ≤ (xR X).frames ∧ 8 + (maxL + 11) + 30 * j ≤ (xR X).locals) (hst : stk = As.reverse ++ .ref (xb X + a) :: rest) (hn : As.length = n) (hcat : (rest.map fun v => v.category).sum ≤ 8) (hd : decode cc pc = .ok (.invokevirtual idx, 3)) (k : ps_G X M1 (pc + 3) lv (.int r :: rest)) : ps_G X M pc lv stk := fun H locs ls hP hR0 hS hl => by
  obtain ⟨ci, T, N, hc, hcel⟩ := hv
  obtain ⟨fs, hE⟩ := hcel (xb X) (xD X) a (M.1 a) M.2
  subst hst
  refine va_calli (va_runV (As := As) (rest := rest) ⟨C.1, C.2.1, C.2.2.1, C.2.2.2.1, C.2.2.2.2.1⟩ hM ⟨ps_cb C hw.1.1 hw.1.2.2.2.1 hw.1.2.2.2.2 hw.2.1 hw.2.2 hR, C.2.2.2.2.1 _ hw.1.2.1, C.2.2.2.2.1 _ hw.1.2.2.1⟩ ⟨ps_blind, va_recv C.2.2.2.2.2.1.1 hP hc (by rw [ps_wl_get hk, hE]), fun U hU hW => ⟨rfl, by rw [hU]; exact hP, hR0, ps_K_warm hW hU hS C.2.2.2.2.2.1⟩⟩ rfl hn hl.2.1 rfl (lv_room hcat) hd ⟨C.2.2.2.2.2.2.2.1, C.2.2.2.2.2.2.2.2⟩) hS (fun q _ h => h) (fun q h => h) (fun r' u t H1 locs1 ht hvm hw' hB hz1 hk1 hS1 => ?_)
  obtain ⟨rfl, rfl⟩ := hw'
  exact k H1 locs1 ls (by rw [← ht]; exact hB.1) hB.2.1 hS1 hl
theorem ps_goV_v {X : ps_X} {own : String} {cc : ByteArray} (C : ps_C X own cc) {M : ps_M} {pc : Nat} {lv : List (Option Value)} {stk : List Value} {y : MethodName} {bytes : ByteArray} {maxL idx n κ a j : Nat} {CN : String} {As rest : List Value} {M1 : ps_M} (hM : ps_Tv (xl X) (xb X) (xD X) y bytes maxL j (.ref (xb X + a) :: As) M M1) (hw : ps_cwV own idx CN y bytes maxL none n) (hv : ps_rc κ CN) (hk : ps_ck κ a = true) (hR : j + 1 ≤ (xR X).frames ∧ 8 + (maxL + 11) + 30 * j ≤ (xR X).locals) (hst : stk = As.reverse ++ .ref (xb X + a) :: rest) (hn : As.length = n) (hcat : (rest.map fun v => v.category).sum ≤ 8) (hd : decode cc pc = .ok (.invokevirtual idx, 3)) (k : ps_G X M1 (pc + 3) lv rest) : ps_G X M pc lv stk := fun H locs ls hP hR0 hS hl => by
  obtain ⟨ci, T, N, hc, hcel⟩ := hv
  obtain ⟨fs, hE⟩ := hcel (xb X) (xD X) a (M.1 a) M.2
  subst hst
  refine va_callv (va_runV (As := As) (rest := rest) ⟨C.1, C.2.1, C.2.2.1, C.2.2.2.1, C.2.2.2.2.1⟩ hM ⟨ps_cb C hw.1.1 hw.1.2.2.2.1 hw.1.2.2.2.2 hw.2.1 hw.2.2 hR, C.2.2.2.2.1 _ hw.1.2.1, C.2.2.2.2.1 _ hw.1.2.2.1⟩ ⟨ps_blind, va_recv C.2.2.2.2.2.1.1 hP hc (by rw [ps_wl_get hk, hE]), fun U hU hW => ⟨rfl, by rw [hU]; exact hP, hR0, ps_K_warm hW hU hS C.2.2.2.2.2.1⟩⟩ rfl hn hl.2.1 rfl (lv_room hcat) hd ⟨C.2.2.2.2.2.2.2.1, C.2.2.2.2.2.2.2.2⟩) hS (fun q _ h => h) (fun q h => h) (fun u t H1 locs1 ht hvm hw' hB hz1 hk1 hS1 => ?_)
  subst hw'
  exact k H1 locs1 ls (by rw [← ht]; exact hB.1) hB.2.1 hS1 hl
theorem ps_goS_i {X : ps_X} {own : String} {cc : ByteArray} (C : ps_C X own cc) {M : ps_M} {pc : Nat} {lv : List (Option Value)} {stk : List Value} {y : MethodName} {bytes : ByteArray} {maxL idx n j : Nat} {ty : FieldType} {As rest : List Value} {M1 : ps_M} {r : Int32} (hM : ps_Ti (xl X) (xb X) (xD X) y bytes maxL ty j As M r M1) (hw : ps_cwS own idx y bytes maxL (some ty) n) (hR : j + 1 ≤ (xR X).frames ∧ 8 + (maxL + 11) + 30 * j ≤ (xR X).locals) (hst : stk = As.reverse ++ rest) (hn : As.length = n) (hcat : (rest.map fun v => v.category).sum ≤ 8) (hd : decode cc pc = .ok (.invokestatic idx, 3)) (k : ps_G X M1 (pc + 3) lv (.int r :: rest)) : ps_G X M pc lv stk := fun H locs ls hP hR0 hS hl => by
  subst hst
  refine va_calli (va_runS (As := As) (rest := rest) ⟨C.1, C.2.1, C.2.2.1, C.2.2.2.1, C.2.2.2.2.1⟩ hM ⟨ps_cb C hw.1.1 hw.1.2.2.1 hw.1.2.2.2 hw.2.1 hw.2.2 hR, C.2.2.2.2.1 _ hw.1.2.1⟩ ⟨ps_blind, fun U hU hW => ⟨rfl, by rw [hU]; exact hP, hR0, ps_K_warm hW hU hS C.2.2.2.2.2.1⟩⟩ rfl hn hl.2.1 rfl (lv_room hcat) hd ⟨C.2.2.2.2.2.2.2.1, C.2.2.2.2.2.2.2.2⟩) hS (fun q _ h => h) (fun q h => h) (fun r' u t H1 locs1 ht hvm hw' hB hz1 hk1 hS1 => ?_)
  obtain ⟨rfl, rfl⟩ := hw'
  exact k H1 locs1 ls (by rw [← ht]; exact hB.1) hB.2.1 hS1 hl
theorem ps_goN_i {X : ps_X} {own : String} {cc : ByteArray} (C : ps_C X own cc) {M : ps_M} {pc : Nat} {lv : List (Option Value)} {stk : List Value} {y : MethodName} {bytes : ByteArray} {maxL idx n j : Nat} {ty : FieldType} {As rest : List Value} {host : String} {M1 : ps_M} {r : Int32} (hM : ps_Ti (xl X) (xb X) (xD X) y bytes maxL ty j As M r M1) (hn0 : ps_nest (xs X) → va_Nw (.methodLinkNest own idx y host) (xs X)) (hw : (Cond.static y ∈ ps_T ∧ Cond.initialized y.cls ∈ ps_T ∧ Cond.code y bytes maxL (some ty) ∈ ps_T) ∧ (y.cls ≠ "java/lang/invoke/MethodHandle" ∧ y.cls ≠ "java/lang/invoke/VarHandle") ∧ (parseMethodDescriptor y.desc).map (fun d => d.parameters.length) = some n) (hR : j + 1 ≤ (xR X).frames ∧ 8 + (maxL + 11) + 30 * j ≤ (xR X).locals) (hst : stk = As.reverse ++ rest) (hn : As.length = n) (hcat : (rest.map fun v => v.category).sum ≤ 8) (hd : decode cc pc = .ok (.invokestatic idx, 3)) (k : ps_G X M1 (pc + 3) lv (.int r :: rest)) : ps_G X M pc lv stk := fun H locs ls hP hR0 hS hl => by
  subst hst
  refine va_calli (va_runSN (As := As) (rest := rest) (host := host) ⟨C.1, C.2.1, C.2.2.1, C.2.2.2.1, C.2.2.2.2.1⟩ hM ⟨va_cnB n C.2.2.2.2.1 (ps_good hw.1.2.2) rfl rfl rfl (hn0 C.2.2.2.2.2.1.2.1) (C.2.2.2.2.1 _ hw.1.2.1) ⟨hw.2.1.1, hw.2.1.2, hw.2.2⟩ hR, C.2.2.2.2.1 _ hw.1.1, trivial⟩ ⟨ps_blind, fun U hU hW => ⟨rfl, by rw [hU]; exact hP, hR0, ps_K_warm hW hU hS C.2.2.2.2.2.1⟩⟩ rfl hn hl.2.1 rfl (lv_room hcat) hd ⟨C.2.2.2.2.2.2.2.1, C.2.2.2.2.2.2.2.2⟩) hS (fun q _ h => h) (fun q h => h) (fun r' u t H1 locs1 ht hvm hw' hB hz1 hk1 hS1 => ?_)
  obtain ⟨rfl, rfl⟩ := hw'
  exact k H1 locs1 ls (by rw [← ht]; exact hB.1) hB.2.1 hS1 hl
/-! Math.min, Math.max -/
theorem ps_mmin {X : ps_X} {own : String} {cc : ByteArray} (C : ps_C X own cc) {M : ps_M} {pc : Nat} {lv : List (Option Value)} {stk : List Value} {idx : Nat} {x y : Int32} (hw : Cond.methodLink own idx Lib.Math.min.name ∈ ps_T ∧ Cond.static Lib.Math.min.name ∈ ps_T ∧ Cond.initialized "java/lang/Math" ∈ ps_T ∧ Cond.code Lib.Math.min.name Lib.Math.min.code 2 (some .int) ∈ ps_T) (hf : 1 ≤ (xR X).frames) (hlo : (stk.map fun v => v.category).sum + 13 ≤ (xR X).locals) (hd : decode cc pc = .ok (.invokestatic idx, 3)) (k : ps_G X M (pc + 3) lv (.int (if y < x then y else x) :: stk)) : ps_G X M pc lv (.int y :: .int x :: stk) := fun H locs ls hP hR hS hl => va_mmin C.1 C.2.1 (C.2.2.1.trans hl.2.1.symm) C.2.2.2.1 (C.2.2.2.2.1 _ hw.1) (C.2.2.2.2.1 _ hw.2.1) (C.2.2.2.2.1 _ hw.2.2.1) (C.2.2.2.2.1 _ hw.2.2.2) hf hlo C.2.2.2.2.2.2.2.1 C.2.2.2.2.2.2.2.2 hd (k H locs ls hP hR hS hl)
theorem ps_mmax {X : ps_X} {own : String} {cc : ByteArray} (C : ps_C X own cc) {M : ps_M} {pc : Nat} {lv : List (Option Value)} {stk : List Value} {idx : Nat} {x y : Int32} (hw : Cond.methodLink own idx Lib.Math.max.name ∈ ps_T ∧ Cond.static Lib.Math.max.name ∈ ps_T ∧ Cond.initialized "java/lang/Math" ∈ ps_T ∧ Cond.code Lib.Math.max.name Lib.Math.max.code 2 (some .int) ∈ ps_T) (hf : 1 ≤ (xR X).frames) (hlo : (stk.map fun v => v.category).sum + 13 ≤ (xR X).locals) (hd : decode cc pc = .ok (.invokestatic idx, 3)) (k : ps_G X M (pc + 3) lv (.int (if x < y then y else x) :: stk)) : ps_G X M pc lv (.int y :: .int x :: stk) := fun H locs ls hP hR hS hl => va_mmax C.1 C.2.1 (C.2.2.1.trans hl.2.1.symm) C.2.2.2.1 (C.2.2.2.2.1 _ hw.1) (C.2.2.2.2.1 _ hw.2.1) (C.2.2.2.2.1 _ hw.2.2.1) (C.2.2.2.2.1 _ hw.2.2.2) hf hlo C.2.2.2.2.2.2.2.1 C.2.2.2.2.2.2.2.2 hd (k H locs ls hP hR hS hl)
/-! a contract out of a walk -/
theorem ps_entry {As : List Value} {n : Nat} {lv : List (Option Value)} (hn : lv.length = n) (ha : (lg_sl As).length ≤ n) (h : ps_pairs 0 lv = lv_args 0 As) : ps_lv ((lg_sl As ++ List.replicate (n - (lg_sl As).length) Slot.unset).toArray) n lv := ps_lv_of hn (by rw [h]; exact lv_entry As ha)
theorem ps_met_i {l : Launch} {b : Nat} {D : va_G} {y : MethodName} {own : String} {cc : ByteArray} {maxL j : Nat} {ty : FieldType} {As : List Value} {lv : List (Option Value)} {M M1 : ps_M} {r : Int32} (hy : plainName y.cls = true) (ho : y.cls = own) (hn : lv.length = maxL) (ha : (lg_sl As).length ≤ maxL) (hp : ps_pairs 0 lv = lv_args 0 As)
    (hb : ∀ X : ps_X, xl X = l → xb X = b → xD X = D → xR X = ps_lvl j → xn X = maxL → ps_C X own cc → (∀ pc lv, decode cc pc = .ok (.ireturn, 1) → narrow ty (.int r) = .int r → ps_G X M1 pc lv [.int r]) → ps_G X M 0 lv []) : ps_Ti l b D y cc maxL ty j As M r M1 := by
  refine Met.ofW (cc := cc) (maxL := maxL) (ret := some ty) hy rfl ?_
  intro p e s m args below meth c s₁ B hml hv
  obtain ⟨rfl, hP, hR, hK⟩ := hv
  have hts := atoms_spec (ws := ps_ws y cc maxL (some ty)) B.pre
  have hown : s.vm.findClass own = some m.cls := by rw [← ho]; exact findClass_of_methodNamed B.named
  have hlocks := B.notSynchronized
  have hr := B.returns
  let X : ps_X := (p, l, e, ps_lvl j, s, m, As.toArray, below, meth, c, 0, 0, maxL, b, D, MQ below (ps_Qi b D M1 r) As.toArray s 0 0 (ps_A b))
  have hC : ps_C X own cc := ⟨B.exec, B.bytes, hml, hown, fun w hw => hts w (List.mem_cons_of_mem _ hw), hK, hlocks, Nat.zero_le _, Nat.zero_le _⟩
  have hG := hb X rfl rfl rfl rfl rfl hC (fun pc lv' hd hnr H locs ls hP' hR' hS hl => W.zret (ty := ty) B.exec B.bytes hr hnr (fun t ht hW => ⟨⟨r, M1, rfl, ⟨rfl, rfl⟩, by rw [ht]; exact hP', hR', ps_K_warm hW ht hS hK⟩, hS.F ht⟩) hS.2.2 hd hlocks)
  rw [lg_entry_eq]
  exact hG s.heap [] _ hP hR va_S.rf (ps_entry hn ha hp)
theorem ps_met_v {l : Launch} {b : Nat} {D : va_G} {y : MethodName} {own : String} {cc : ByteArray} {maxL j : Nat} {As : List Value} {lv : List (Option Value)} {M M1 : ps_M} (hy : plainName y.cls = true) (ho : y.cls = own) (hn : lv.length = maxL) (ha : (lg_sl As).length ≤ maxL) (hp : ps_pairs 0 lv = lv_args 0 As)
    (hb : ∀ X : ps_X, xl X = l → xb X = b → xD X = D → xR X = ps_lvl j → xn X = maxL → ps_C X own cc → (∀ pc lv, decode cc pc = .ok (.return_, 1) → ps_G X M1 pc lv []) → ps_G X M 0 lv []) : ps_Tv l b D y cc maxL j As M M1 := by
  refine Met.ofW (cc := cc) (maxL := maxL) (ret := none) hy rfl ?_
  intro p e s m args below meth c s₁ B hml hv
  obtain ⟨rfl, hP, hR, hK⟩ := hv
  have hts := atoms_spec (ws := ps_ws y cc maxL none) B.pre
  have hown : s.vm.findClass own = some m.cls := by rw [← ho]; exact findClass_of_methodNamed B.named
  have hlocks := B.notSynchronized
  have hr := B.returns
  let X : ps_X := (p, l, e, ps_lvl j, s, m, As.toArray, below, meth, c, 0, 0, maxL, b, D, MQ below (ps_Qv b D M1) As.toArray s 0 0 (ps_A b))
  have hC : ps_C X own cc := ⟨B.exec, B.bytes, hml, hown, fun w hw => hts w (List.mem_cons_of_mem _ hw), hK, hlocks, Nat.zero_le _, Nat.zero_le _⟩
  have hG := hb X rfl rfl rfl rfl rfl hC (fun pc lv' hd H locs ls hP' hR' hS hl => W.vret B.exec B.bytes hr (fun t ht hW => ⟨⟨M1, rfl, rfl, by rw [ht]; exact hP', hR', ps_K_warm hW ht hS hK⟩, hS.F ht⟩) hS.2.2 hd hlocks)
  rw [lg_entry_eq]
  exact hG s.heap [] _ hP hR va_S.rf (ps_entry hn ha hp)
theorem ps_rc0 : ps_rc 0 RX6 := ⟨6, TX6, 6, rfl, fun _ _ _ _ _ => ⟨_, rfl⟩⟩
theorem ps_rc1 : ps_rc 1 RX1 := ⟨1, TX1, 6, rfl, fun _ _ _ _ _ => ⟨_, rfl⟩⟩
theorem ps_rc3 : ps_rc 3 RX5 := ⟨5, TX5, 4, rfl, fun _ _ _ _ _ => ⟨_, rfl⟩⟩
theorem ps_rc9 : ps_rc 9 RX3 := ⟨3, TX3, 6, rfl, fun _ _ _ _ _ => ⟨_, rfl⟩⟩
theorem ps_rc12 : ps_rc 12 RX0 := ⟨0, TX0, 3, rfl, fun _ _ _ _ _ => ⟨_, rfl⟩⟩
theorem ps_rc14 : ps_rc 14 RX4 := ⟨4, TX4, 9, rfl, fun _ _ _ _ _ => ⟨_, rfl⟩⟩
theorem ps_rc15 : ps_rc 15 RX2 := ⟨2, TX2, 2, rfl, fun _ _ _ _ _ => ⟨_, rfl⟩⟩
theorem ps_rc20 : ps_rc 20 RX7 := ⟨7, TX7, 13, rfl, fun _ _ _ _ _ => ⟨_, rfl⟩⟩
end
