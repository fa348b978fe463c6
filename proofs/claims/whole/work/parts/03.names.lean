theorem goI {base : List Cond} (hg : base.all goodWord = true) {ws : List Cond} (h : ∀ w ∈ ws, w ∈ base) : GoodIn base ws := fun w hw => ⟨h w hw, good_of_word (List.all_eq_true.mp hg w (h w hw))⟩
theorem goS {base : List Cond} (hg : base.all goodWord = true) {own : String} {idx : Nat} {y : MethodName} {c1 : Cond} (h1 : Cond.methodLink own idx y ∈ base) (h2 : Cond.static y ∈ base) (h3 : Cond.initialized own ∈ base) (h4 : c1 ∈ base) : GoodIn base (wsS own idx y (c1 :: base)) := by
  refine goI hg fun w hw => ?_
  simp only [wsS, List.cons_append, List.nil_append, List.mem_cons] at hw
  rcases hw with rfl | rfl | rfl | rfl | h
  · exact h1
  · exact h2
  · exact h3
  · exact h4
  · exact h
theorem goV {base : List Cond} (hg : base.all goodWord = true) {own C : String} {idx : Nat} {y : MethodName} {c1 : Cond} (h1 : Cond.methodLink own idx y ∈ base) (h2 : Cond.instanceMethod y ∈ base) (h3 : Cond.selects C y y ∈ base) (h5 : Cond.initialized C ∈ base) (h4 : c1 ∈ base) : GoodIn base (wsV own idx C y (c1 :: base)) := by
  refine goI hg fun w hw => ?_
  simp only [wsV, List.cons_append, List.nil_append, List.mem_cons] at hw
  rcases hw with rfl | rfl | rfl | rfl | rfl | h
  · exact h1
  · exact h2
  · exact h3
  · exact h5
  · exact h4
  · exact h
/-! names, word lists: written by wip/whole/names.py out of the listing and the tables of the claim -/
def RJ6 : String := "java/lang/Integer"
abbrev cJ6_bitCount_0f7a4 : ByteArray := prog_8_method_49_code
def yJ6_bitCount_0f7a4 : MethodName := ⟨RJ6, "bitCount", "(I)I"⟩
def RX0 : String := "OnceStore"
def TX0 : u_T := fun k => match k with
  | 0 => ("OnceStore", "wordRow", "[I", true)
  | 1 => ("OnceStore", "tagRow", "[I", true)
  | 2 => ("OnceStore", "lineRow", "[I", true)
  | 3 => ("OnceStore", "setCells", "I", false)
  | 4 => ("OnceStore", "writes", "I", false)
  | 5 => ("OnceStore", "powered", "Z", false)
  | 6 => ("OnceStore", "writesToFailure", "I", false)
  | 7 => ("OnceStore", "stagedKeys", "[I", true)
  | 8 => ("OnceStore", "stagedValues", "[I", true)
  | 9 => ("OnceStore", "plannedLines", "[I", true)
  | 10 => ("OnceStore", "batchOpen", "Z", false)
  | _ => ("OnceStore", "batchSize", "I", false)
def tyX0 : Nat → FieldType := fun k => match k with
  | 0 => .array .int
  | 1 => .array .int
  | 2 => .array .int
  | 3 => .int
  | 4 => .int
  | 5 => .boolean
  | 6 => .int
  | 7 => .array .int
  | 8 => .array .int
  | 9 => .array .int
  | 10 => .boolean
  | _ => .int
abbrev wsX00 : List Cond := u_ws RX0 TX0 12
theorem nmX0 : ∀ a, a < 12 → ∀ b, b < 12 → a ≠ b → (TX0 a).2.1 ≠ (TX0 b).2.1 := by decide +kernel
theorem tyX0_ok : ∀ k, k < 12 → parseFieldDescriptor (TX0 k).2.2.1 = some (tyX0 k) := by decide +kernel
abbrev cX0_init : ByteArray := prog_1_method_1_code
def yX0_init : MethodName := ⟨RX0, "<init>", "()V"⟩
abbrev cX0_isOn : ByteArray := prog_1_method_12_code
def yX0_isOn : MethodName := ⟨RX0, "isOn", "()Z"⟩
abbrev cX0_put : ByteArray := prog_1_method_2_code
def yX0_put : MethodName := ⟨RX0, "put", "(II)I"⟩
abbrev cX0_isKey : ByteArray := prog_1_method_17_code
def yX0_isKey : MethodName := ⟨RX0, "isKey", "(I)Z"⟩
abbrev cX0_isBelow : ByteArray := prog_1_method_16_code
def yX0_isBelow : MethodName := ⟨RX0, "isBelow", "(II)Z"⟩
abbrev cX0_isValue : ByteArray := prog_1_method_18_code
def yX0_isValue : MethodName := ⟨RX0, "isValue", "(I)Z"⟩
abbrev cX0_wordThatTakes : ByteArray := prog_1_method_35_code
def yX0_wordThatTakes : MethodName := ⟨RX0, "wordThatTakes", "(III)I"⟩
abbrev cX0_presentWord : ByteArray := prog_1_method_25_code
def yX0_presentWord : MethodName := ⟨RX0, "presentWord", "(I)I"⟩
abbrev cX0_tagOf : ByteArray := prog_1_method_19_code
def yX0_tagOf : MethodName := ⟨RX0, "tagOf", "(I)I"⟩
abbrev cX0_staysInPlace : ByteArray := prog_1_method_24_code
def yX0_staysInPlace : MethodName := ⟨RX0, "staysInPlace", "(II)Z"⟩
abbrev cX0_patternOfWord : ByteArray := prog_1_method_23_code
def yX0_patternOfWord : MethodName := ⟨RX0, "patternOfWord", "(II)I"⟩
abbrev cX0_patternOfGroup : ByteArray := prog_1_method_22_code
def yX0_patternOfGroup : MethodName := ⟨RX0, "patternOfGroup", "(II)I"⟩
abbrev cX0_lowestFreshWord : ByteArray := prog_1_method_30_code
def yX0_lowestFreshWord : MethodName := ⟨RX0, "lowestFreshWord", "(I)I"⟩
abbrev cX0_isFresh : ByteArray := prog_1_method_29_code
def yX0_isFresh : MethodName := ⟨RX0, "isFresh", "(I)Z"⟩
abbrev cX0_writePut : ByteArray := prog_1_method_46_code
def yX0_writePut : MethodName := ⟨RX0, "writePut", "(III)Z"⟩
abbrev cX0_write : ByteArray := prog_1_method_47_code
def yX0_write : MethodName := ⟨RX0, "write", "([III)Z"⟩
abbrev cX0_get : ByteArray := prog_1_method_3_code
def yX0_get : MethodName := ⟨RX0, "get", "(I)I"⟩
abbrev cX0_meaningOfWord : ByteArray := prog_1_method_21_code
def yX0_meaningOfWord : MethodName := ⟨RX0, "meaningOfWord", "(I)I"⟩
abbrev cX0_meaningOfGroup : ByteArray := prog_1_method_20_code
def yX0_meaningOfGroup : MethodName := ⟨RX0, "meaningOfGroup", "(I)I"⟩
abbrev cX0_wouldMove : ByteArray := prog_1_method_4_code
def yX0_wouldMove : MethodName := ⟨RX0, "wouldMove", "(II)Z"⟩
abbrev cX0_begin : ByteArray := prog_1_method_5_code
def yX0_begin : MethodName := ⟨RX0, "begin", "()V"⟩
abbrev cX0_stage : ByteArray := prog_1_method_6_code
def yX0_stage : MethodName := ⟨RX0, "stage", "(II)I"⟩
abbrev cX0_isStaged : ByteArray := prog_1_method_36_code
def yX0_isStaged : MethodName := ⟨RX0, "isStaged", "(I)Z"⟩
abbrev cX0_commit : ByteArray := prog_1_method_7_code
def yX0_commit : MethodName := ⟨RX0, "commit", "()I"⟩
abbrev cX0_closeBatch : ByteArray := prog_1_method_37_code
def yX0_closeBatch : MethodName := ⟨RX0, "closeBatch", "()V"⟩
abbrev cX0_lowestEmptyNote : ByteArray := prog_1_method_33_code
def yX0_lowestEmptyNote : MethodName := ⟨RX0, "lowestEmptyNote", "()I"⟩
abbrev cX0_isEmptyNote : ByteArray := prog_1_method_32_code
def yX0_isEmptyNote : MethodName := ⟨RX0, "isEmptyNote", "(I)Z"⟩
abbrev cX0_planLines : ByteArray := prog_1_method_38_code
def yX0_planLines : MethodName := ⟨RX0, "planLines", "()Z"⟩
abbrev cX0_lineFor : ByteArray := prog_1_method_41_code
def yX0_lineFor : MethodName := ⟨RX0, "lineFor", "(III)I"⟩
abbrev cX0_writeNote : ByteArray := prog_1_method_39_code
def yX0_writeNote : MethodName := ⟨RX0, "writeNote", "(I)Z"⟩
abbrev cX0_carryOutNote : ByteArray := prog_1_method_40_code
def yX0_carryOutNote : MethodName := ⟨RX0, "carryOutNote", "(I)Z"⟩
abbrev cX0_namesWord : ByteArray := prog_1_method_42_code
def yX0_namesWord : MethodName := ⟨RX0, "namesWord", "(I)Z"⟩
abbrev cX0_wordOfLine : ByteArray := prog_1_method_45_code
def yX0_wordOfLine : MethodName := ⟨RX0, "wordOfLine", "(I)I"⟩
abbrev cX0_keyOfLine : ByteArray := prog_1_method_44_code
def yX0_keyOfLine : MethodName := ⟨RX0, "keyOfLine", "(I)I"⟩
abbrev cX0_valueOfLine : ByteArray := prog_1_method_43_code
def yX0_valueOfLine : MethodName := ⟨RX0, "valueOfLine", "(I)I"⟩
abbrev cX0_abandon : ByteArray := prog_1_method_8_code
def yX0_abandon : MethodName := ⟨RX0, "abandon", "()I"⟩
abbrev cX0_left : ByteArray := prog_1_method_9_code
def yX0_left : MethodName := ⟨RX0, "left", "(I)I"⟩
abbrev cX0_countFreshWords : ByteArray := prog_1_method_31_code
def yX0_countFreshWords : MethodName := ⟨RX0, "countFreshWords", "()I"⟩
abbrev cX0_countEmptyNotes : ByteArray := prog_1_method_34_code
def yX0_countEmptyNotes : MethodName := ⟨RX0, "countEmptyNotes", "()I"⟩
abbrev cX0_cell : ByteArray := prog_1_method_10_code
def yX0_cell : MethodName := ⟨RX0, "cell", "(III)I"⟩
abbrev cX0_failAfter : ByteArray := prog_1_method_11_code
def yX0_failAfter : MethodName := ⟨RX0, "failAfter", "(I)V"⟩
abbrev cX0_mount : ByteArray := prog_1_method_13_code
def yX0_mount : MethodName := ⟨RX0, "mount", "()I"⟩
abbrev cX0_countKeysWithWords : ByteArray := prog_1_method_28_code
def yX0_countKeysWithWords : MethodName := ⟨RX0, "countKeysWithWords", "()I"⟩
abbrev cX0_words : ByteArray := prog_1_method_14_code
def yX0_words : MethodName := ⟨RX0, "words", "(I)I"⟩
abbrev cX0_countWords : ByteArray := prog_1_method_27_code
def yX0_countWords : MethodName := ⟨RX0, "countWords", "(I)I"⟩
abbrev cX0_history : ByteArray := prog_1_method_15_code
def yX0_history : MethodName := ⟨RX0, "history", "(II)I"⟩
abbrev cX0_numberedWord : ByteArray := prog_1_method_26_code
def yX0_numberedWord : MethodName := ⟨RX0, "numberedWord", "(II)I"⟩
def RX1 : String := "OnceStoreModel"
def TX1 : u_T := fun k => match k with
  | 0 => ("OnceStoreModel", "thrown", "I", false)
  | 1 => ("OnceStoreModel", "wordCells", "[Z", true)
  | 2 => ("OnceStoreModel", "tagCells", "[Z", true)
  | 3 => ("OnceStoreModel", "lineCells", "[Z", true)
  | 4 => ("OnceStoreModel", "writes", "I", false)
  | 5 => ("OnceStoreModel", "off", "Z", false)
  | 6 => ("OnceStoreModel", "until", "I", false)
  | 7 => ("OnceStoreModel", "open", "Z", false)
  | 8 => ("OnceStoreModel", "staged", "I", false)
  | 9 => ("OnceStoreModel", "keys", "[I", true)
  | 10 => ("OnceStoreModel", "values", "[I", true)
  | _ => ("OnceStoreModel", "takers", "[I", true)
def tyX1 : Nat → FieldType := fun k => match k with
  | 0 => .int
  | 1 => .array .boolean
  | 2 => .array .boolean
  | 3 => .array .boolean
  | 4 => .int
  | 5 => .boolean
  | 6 => .int
  | 7 => .boolean
  | 8 => .int
  | 9 => .array .int
  | 10 => .array .int
  | _ => .array .int
abbrev wsX10 : List Cond := u_ws RX1 TX1 12
theorem nmX1 : ∀ a, a < 12 → ∀ b, b < 12 → a ≠ b → (TX1 a).2.1 ≠ (TX1 b).2.1 := by decide +kernel
theorem tyX1_ok : ∀ k, k < 12 → parseFieldDescriptor (TX1 k).2.2.1 = some (tyX1 k) := by decide +kernel
abbrev cX1_init : ByteArray := prog_3_method_1_code
def yX1_init : MethodName := ⟨RX1, "<init>", "()V"⟩
abbrev cX1_thrown : ByteArray := prog_3_method_2_code
def yX1_thrown : MethodName := ⟨RX1, "thrown", "()I"⟩
abbrev cX1_put : ByteArray := prog_3_method_27_code
def yX1_put : MethodName := ⟨RX1, "put", "(II)I"⟩
abbrev cX1_isKey : ByteArray := prog_3_method_22_code
def yX1_isKey : MethodName := ⟨RX1, "isKey", "(I)Z"⟩
abbrev cX1_isValue : ByteArray := prog_3_method_23_code
def yX1_isValue : MethodName := ⟨RX1, "isValue", "(I)Z"⟩
abbrev cX1_taker : ByteArray := prog_3_method_24_code
def yX1_taker : MethodName := ⟨RX1, "taker", "(III)I"⟩
abbrev cX1_present : ByteArray := prog_3_method_12_code
def yX1_present : MethodName := ⟨RX1, "present", "(I)I"⟩
abbrev cX1_tag : ByteArray := prog_3_method_10_code
def yX1_tag : MethodName := ⟨RX1, "tag", "(I)I"⟩
abbrev cX1_comesTo : ByteArray := prog_3_method_8_code
def yX1_comesTo : MethodName := ⟨RX1, "comesTo", "(II)Z"⟩
abbrev cX1_pattern : ByteArray := prog_3_method_6_code
def yX1_pattern : MethodName := ⟨RX1, "pattern", "(II)I"⟩
abbrev cX1_better : ByteArray := prog_3_method_7_code
def yX1_better : MethodName := ⟨RX1, "better", "(II)I"⟩
abbrev cX1_meaning : ByteArray := prog_3_method_5_code
def yX1_meaning : MethodName := ⟨RX1, "meaning", "(I)I"⟩
abbrev cX1_size : ByteArray := prog_3_method_3_code
def yX1_size : MethodName := ⟨RX1, "size", "(I)I"⟩
abbrev cX1_single : ByteArray := prog_3_method_4_code
def yX1_single : MethodName := ⟨RX1, "single", "(I)I"⟩
abbrev cX1_freshFrom : ByteArray := prog_3_method_13_code
def yX1_freshFrom : MethodName := ⟨RX1, "freshFrom", "(I)I"⟩
abbrev cX1_isFresh : ByteArray := prog_3_method_11_code
def yX1_isFresh : MethodName := ⟨RX1, "isFresh", "(I)Z"⟩
abbrev cX1_perform : ByteArray := prog_3_method_26_code
def yX1_perform : MethodName := ⟨RX1, "perform", "(III)V"⟩
abbrev cX1_writeWord : ByteArray := prog_3_method_18_code
def yX1_writeWord : MethodName := ⟨RX1, "writeWord", "(II)V"⟩
abbrev cX1_valueIs : ByteArray := prog_3_method_19_code
def yX1_valueIs : MethodName := ⟨RX1, "valueIs", "(II)Z"⟩
abbrev cX1_valueOf : ByteArray := prog_3_method_9_code
def yX1_valueOf : MethodName := ⟨RX1, "valueOf", "(I)I"⟩
abbrev cX1_mayWrite : ByteArray := prog_3_method_17_code
def yX1_mayWrite : MethodName := ⟨RX1, "mayWrite", "()Z"⟩
abbrev cX1_writeTag : ByteArray := prog_3_method_20_code
def yX1_writeTag : MethodName := ⟨RX1, "writeTag", "(II)V"⟩
abbrev cX1_get : ByteArray := prog_3_method_28_code
def yX1_get : MethodName := ⟨RX1, "get", "(I)I"⟩
abbrev cX1_wouldMove : ByteArray := prog_3_method_29_code
def yX1_wouldMove : MethodName := ⟨RX1, "wouldMove", "(II)Z"⟩
abbrev cX1_moves : ByteArray := prog_3_method_25_code
def yX1_moves : MethodName := ⟨RX1, "moves", "(II)Z"⟩
abbrev cX1_begin : ByteArray := prog_3_method_30_code
def yX1_begin : MethodName := ⟨RX1, "begin", "()V"⟩
abbrev cX1_stage : ByteArray := prog_3_method_32_code
def yX1_stage : MethodName := ⟨RX1, "stage", "(II)I"⟩
abbrev cX1_isStaged : ByteArray := prog_3_method_31_code
def yX1_isStaged : MethodName := ⟨RX1, "isStaged", "(I)Z"⟩
abbrev cX1_abandon : ByteArray := prog_3_method_33_code
def yX1_abandon : MethodName := ⟨RX1, "abandon", "()I"⟩
abbrev cX1_commit : ByteArray := prog_3_method_35_code
def yX1_commit : MethodName := ⟨RX1, "commit", "()I"⟩
abbrev cX1_emptyNote : ByteArray := prog_3_method_16_code
def yX1_emptyNote : MethodName := ⟨RX1, "emptyNote", "()I"⟩
abbrev cX1_isEmptyNote : ByteArray := prog_3_method_15_code
def yX1_isEmptyNote : MethodName := ⟨RX1, "isEmptyNote", "(I)Z"⟩
abbrev cX1_line : ByteArray := prog_3_method_14_code
def yX1_line : MethodName := ⟨RX1, "line", "(I)J"⟩
abbrev cX1_share : ByteArray := prog_3_method_34_code
def yX1_share : MethodName := ⟨RX1, "share", "()Z"⟩
abbrev cX1_writeLine : ByteArray := prog_3_method_21_code
def yX1_writeLine : MethodName := ⟨RX1, "writeLine", "(IJ)V"⟩
abbrev cX1_failAfter : ByteArray := prog_3_method_36_code
def yX1_failAfter : MethodName := ⟨RX1, "failAfter", "(I)V"⟩
abbrev cX1_isOn : ByteArray := prog_3_method_37_code
def yX1_isOn : MethodName := ⟨RX1, "isOn", "()Z"⟩
abbrev cX1_mount : ByteArray := prog_3_method_39_code
def yX1_mount : MethodName := ⟨RX1, "mount", "()I"⟩
abbrev cX1_finish : ByteArray := prog_3_method_38_code
def yX1_finish : MethodName := ⟨RX1, "finish", "(I)V"⟩
abbrev cX1_left : ByteArray := prog_3_method_41_code
def yX1_left : MethodName := ⟨RX1, "left", "(I)I"⟩
abbrev cX1_countOf : ByteArray := prog_3_method_40_code
def yX1_countOf : MethodName := ⟨RX1, "countOf", "([ZI)I"⟩
abbrev cX1_cell : ByteArray := prog_3_method_42_code
def yX1_cell : MethodName := ⟨RX1, "cell", "(III)I"⟩
abbrev cX1_words : ByteArray := prog_3_method_43_code
def yX1_words : MethodName := ⟨RX1, "words", "(I)I"⟩
abbrev cX1_history : ByteArray := prog_3_method_44_code
def yX1_history : MethodName := ⟨RX1, "history", "(II)I"⟩
def RL : String := "OnceStoreLaw"
abbrev cL_put : ByteArray := method_3_code
def yL_put : MethodName := ⟨RL, "put", "(LOnceStore;II[J)I"⟩
abbrev cL_get : ByteArray := method_4_code
def yL_get : MethodName := ⟨RL, "get", "(LOnceStore;I[J)I"⟩
abbrev cL_wouldMove : ByteArray := method_5_code
def yL_wouldMove : MethodName := ⟨RL, "wouldMove", "(LOnceStore;II[J)I"⟩
abbrev cL_begin : ByteArray := method_6_code
def yL_begin : MethodName := ⟨RL, "begin", "(LOnceStore;)I"⟩
abbrev cL_stage : ByteArray := method_7_code
def yL_stage : MethodName := ⟨RL, "stage", "(LOnceStore;II[J)I"⟩
abbrev cL_commit : ByteArray := method_8_code
def yL_commit : MethodName := ⟨RL, "commit", "(LOnceStore;[J)I"⟩
abbrev cL_abandon : ByteArray := method_9_code
def yL_abandon : MethodName := ⟨RL, "abandon", "(LOnceStore;[J)I"⟩
abbrev cL_left : ByteArray := method_10_code
def yL_left : MethodName := ⟨RL, "left", "(LOnceStore;I[J)I"⟩
abbrev cL_cell : ByteArray := method_11_code
def yL_cell : MethodName := ⟨RL, "cell", "(LOnceStore;III[J)I"⟩
abbrev cL_failAfter : ByteArray := method_12_code
def yL_failAfter : MethodName := ⟨RL, "failAfter", "(LOnceStore;I)I"⟩
abbrev cL_mount : ByteArray := method_13_code
def yL_mount : MethodName := ⟨RL, "mount", "(LOnceStore;[J)I"⟩
abbrev cL_words : ByteArray := method_14_code
def yL_words : MethodName := ⟨RL, "words", "(LOnceStore;I[J)I"⟩
abbrev cL_history : ByteArray := method_15_code
def yL_history : MethodName := ⟨RL, "history", "(LOnceStore;II[J)I"⟩
abbrev cL_law : ByteArray := code
def yL_law : MethodName := ⟨RL, "law", "([I)Z"⟩
def litX0 : List Cond := [.initialized RX0, .fieldLink RX0 9 "OnceStore" "wordRow" "[I", .fieldLink RX0 13 "OnceStore" "tagRow" "[I", .fieldLink RX0 16 "OnceStore" "lineRow" "[I", .fieldLink RX0 19 "OnceStore" "setCells" "I", .fieldLink RX0 23 "OnceStore" "writes" "I", .fieldLink RX0 26 "OnceStore" "powered" "Z", .fieldLink RX0 30 "OnceStore" "writesToFailure" "I", .fieldLink RX0 33 "OnceStore" "stagedKeys" "[I", .fieldLink RX0 36 "OnceStore" "stagedValues" "[I", .fieldLink RX0 39 "OnceStore" "plannedLines" "[I", .fieldLink RX0 42 "OnceStore" "batchOpen" "Z", .fieldLink RX0 45 "OnceStore" "batchSize" "I", .constant RX0 122 (65536), .classLink RX0 55 "java/lang/IllegalArgumentException", .classLink RX0 58 "java/lang/IllegalStateException", .constant RX0 168 (1073741824), .constant RX0 169 (65535), .classLink RX0 109 "java/lang/IndexOutOfBoundsException", .arrayClass .int, .methodLink RX0 3 objectInit, .instanceMethod objectInit, .code objectInit ⟨#[0xb1]⟩ 1 none, .methodLink RX0 48 yX0_isKey, .static yX0_isKey, .methodLink RX0 106 yX0_isBelow, .static yX0_isBelow, .methodLink RX0 52 yX0_isValue, .static yX0_isValue, .methodLink RX0 61 yX0_wordThatTakes, .instanceMethod yX0_wordThatTakes, .selects RX0 yX0_wordThatTakes yX0_wordThatTakes, .methodLink RX0 69 yX0_presentWord, .instanceMethod yX0_presentWord, .selects RX0 yX0_presentWord yX0_presentWord, .methodLink RX0 137 yX0_tagOf, .static yX0_tagOf, .methodLink RX0 76 yX0_staysInPlace, .instanceMethod yX0_staysInPlace, .selects RX0 yX0_staysInPlace yX0_staysInPlace, .methodLink RX0 134 yX0_patternOfWord, .static yX0_patternOfWord, .methodLink RX0 131 yX0_patternOfGroup, .static yX0_patternOfGroup, .methodLink RX0 146 yX0_lowestFreshWord, .instanceMethod yX0_lowestFreshWord, .selects RX0 yX0_lowestFreshWord yX0_lowestFreshWord, .methodLink RX0 140 yX0_isFresh, .instanceMethod yX0_isFresh, .selects RX0 yX0_isFresh yX0_isFresh, .methodLink RX0 65 yX0_writePut, .instanceMethod yX0_writePut, .selects RX0 yX0_writePut yX0_writePut, .methodLink RX0 152 yX0_write, .instanceMethod yX0_write, .selects RX0 yX0_write yX0_write, .methodLink RX0 123 yJ6_bitCount_0f7a4, .static yJ6_bitCount_0f7a4, .initialized RJ6, .code yJ6_bitCount_0f7a4 cJ6_bitCount_0f7a4 1 (some .int), .constant RJ6 265 (1431655765), .constant RJ6 266 (858993459), .constant RJ6 267 (252645135), .methodLink RX0 73 yX0_meaningOfWord, .static yX0_meaningOfWord, .methodLink RX0 128 yX0_meaningOfGroup, .static yX0_meaningOfGroup, .methodLink RX0 80 yX0_isStaged, .instanceMethod yX0_isStaged, .selects RX0 yX0_isStaged yX0_isStaged, .methodLink RX0 83 yX0_closeBatch, .instanceMethod yX0_closeBatch, .selects RX0 yX0_closeBatch yX0_closeBatch, .methodLink RX0 86 yX0_lowestEmptyNote, .instanceMethod yX0_lowestEmptyNote, .selects RX0 yX0_lowestEmptyNote yX0_lowestEmptyNote, .methodLink RX0 143 yX0_isEmptyNote, .instanceMethod yX0_isEmptyNote, .selects RX0 yX0_isEmptyNote yX0_isEmptyNote, .methodLink RX0 90 yX0_planLines, .instanceMethod yX0_planLines, .selects RX0 yX0_planLines yX0_planLines, .methodLink RX0 149 yX0_lineFor, .static yX0_lineFor, .methodLink RX0 94 yX0_writeNote, .instanceMethod yX0_writeNote, .selects RX0 yX0_writeNote yX0_writeNote, .methodLink RX0 97 yX0_carryOutNote, .instanceMethod yX0_carryOutNote, .selects RX0 yX0_carryOutNote yX0_carryOutNote, .methodLink RX0 156 yX0_namesWord, .static yX0_namesWord, .methodLink RX0 165 yX0_wordOfLine, .static yX0_wordOfLine, .methodLink RX0 159 yX0_keyOfLine, .static yX0_keyOfLine, .methodLink RX0 162 yX0_valueOfLine, .static yX0_valueOfLine, .methodLink RX0 100 yX0_countFreshWords, .instanceMethod yX0_countFreshWords, .selects RX0 yX0_countFreshWords yX0_countFreshWords, .methodLink RX0 103 yX0_countEmptyNotes, .instanceMethod yX0_countEmptyNotes, .selects RX0 yX0_countEmptyNotes yX0_countEmptyNotes, .methodLink RX0 112 yX0_countKeysWithWords, .instanceMethod yX0_countKeysWithWords, .selects RX0 yX0_countKeysWithWords yX0_countKeysWithWords, .methodLink RX0 115 yX0_countWords, .instanceMethod yX0_countWords, .selects RX0 yX0_countWords yX0_countWords, .methodLink RX0 118 yX0_numberedWord, .instanceMethod yX0_numberedWord, .selects RX0 yX0_numberedWord yX0_numberedWord, .code yX0_init cX0_init 1 none, .code yX0_isOn cX0_isOn 1 (some .boolean), .code yX0_put cX0_put 5 (some .int), .code yX0_isKey cX0_isKey 1 (some .boolean), .code yX0_isBelow cX0_isBelow 2 (some .boolean), .code yX0_isValue cX0_isValue 1 (some .boolean), .code yX0_wordThatTakes cX0_wordThatTakes 5 (some .int), .code yX0_presentWord cX0_presentWord 3 (some .int), .code yX0_tagOf cX0_tagOf 1 (some .int), .code yX0_staysInPlace cX0_staysInPlace 3 (some .boolean), .code yX0_patternOfWord cX0_patternOfWord 7 (some .int), .code yX0_patternOfGroup cX0_patternOfGroup 4 (some .int), .code yX0_lowestFreshWord cX0_lowestFreshWord 3 (some .int), .code yX0_isFresh cX0_isFresh 2 (some .boolean), .code yX0_writePut cX0_writePut 4 (some .boolean), .code yX0_write cX0_write 5 (some .boolean), .code yX0_get cX0_get 3 (some .int), .code yX0_meaningOfWord cX0_meaningOfWord 4 (some .int), .code yX0_meaningOfGroup cX0_meaningOfGroup 2 (some .int), .code yX0_wouldMove cX0_wouldMove 3 (some .boolean), .code yX0_begin cX0_begin 1 none, .code yX0_stage cX0_stage 3 (some .int), .code yX0_isStaged cX0_isStaged 3 (some .boolean), .code yX0_commit cX0_commit 4 (some .int), .code yX0_closeBatch cX0_closeBatch 1 none, .code yX0_lowestEmptyNote cX0_lowestEmptyNote 2 (some .int), .code yX0_isEmptyNote cX0_isEmptyNote 3 (some .boolean), .code yX0_planLines cX0_planLines 5 (some .boolean), .code yX0_lineFor cX0_lineFor 3 (some .int), .code yX0_writeNote cX0_writeNote 4 (some .boolean), .code yX0_carryOutNote cX0_carryOutNote 5 (some .boolean), .code yX0_namesWord cX0_namesWord 1 (some .boolean), .code yX0_wordOfLine cX0_wordOfLine 1 (some .int), .code yX0_keyOfLine cX0_keyOfLine 1 (some .int), .code yX0_valueOfLine cX0_valueOfLine 1 (some .int), .code yX0_abandon cX0_abandon 2 (some .int), .code yX0_left cX0_left 2 (some .int), .code yX0_countFreshWords cX0_countFreshWords 3 (some .int), .code yX0_countEmptyNotes cX0_countEmptyNotes 3 (some .int), .code yX0_cell cX0_cell 4 (some .int), .code yX0_failAfter cX0_failAfter 2 none, .code yX0_mount cX0_mount 2 (some .int), .code yX0_countKeysWithWords cX0_countKeysWithWords 3 (some .int), .code yX0_words cX0_words 2 (some .int), .code yX0_countWords cX0_countWords 4 (some .int), .code yX0_history cX0_history 4 (some .int), .code yX0_numberedWord cX0_numberedWord 5 (some .int), .initialized "java/lang/IllegalArgumentException", .initialized "java/lang/IllegalStateException", .initialized "java/lang/IndexOutOfBoundsException"]
def xX0_IAE : List Cond := (vx_at0 RX0 57 "java/lang/IllegalArgumentException" ["java/lang/RuntimeException", "java/lang/Exception"]).filter goodWord
def xX0_ISE : List Cond := (vx_at0 RX0 60 "java/lang/IllegalStateException" ["java/lang/RuntimeException", "java/lang/Exception"]).filter goodWord
def xX0_IOB : List Cond := (vx_at0 RX0 111 "java/lang/IndexOutOfBoundsException" ["java/lang/RuntimeException", "java/lang/Exception"]).filter goodWord
def bX0 : List Cond := litX0 ++ (wsX00 ++ (xX0_IAE ++ xX0_ISE ++ xX0_IOB))
theorem gdX0 : bX0.all goodWord = true := by decide +kernel
theorem inX0 : ∀ w ∈ wsX00, w ∈ bX0 := fun _ h => List.mem_append_right _ (List.mem_append_left _ h)
theorem inxX0_IAE : ∀ w ∈ xX0_IAE, w ∈ bX0 := fun _ h => List.mem_append_right _ (List.mem_append_right _ (List.mem_append_left _ (List.mem_append_left _ h)))
theorem inxX0_ISE : ∀ w ∈ xX0_ISE, w ∈ bX0 := fun _ h => List.mem_append_right _ (List.mem_append_right _ (List.mem_append_left _ (List.mem_append_right _ h)))
theorem inxX0_IOB : ∀ w ∈ xX0_IOB, w ∈ bX0 := fun _ h => List.mem_append_right _ (List.mem_append_right _ (List.mem_append_right _ h))
theorem mX0_init : Cond.initialized RX0 ∈ bX0 := List.mem_append_left _ (List.mem_of_getElem? (i := 0) rfl)
theorem mX0_f_wordRow : Cond.fieldLink RX0 9 "OnceStore" "wordRow" "[I" ∈ bX0 := List.mem_append_left _ (List.mem_of_getElem? (i := 1) rfl)
theorem mX0_f_tagRow : Cond.fieldLink RX0 13 "OnceStore" "tagRow" "[I" ∈ bX0 := List.mem_append_left _ (List.mem_of_getElem? (i := 2) rfl)
theorem mX0_f_lineRow : Cond.fieldLink RX0 16 "OnceStore" "lineRow" "[I" ∈ bX0 := List.mem_append_left _ (List.mem_of_getElem? (i := 3) rfl)
theorem mX0_f_setCells : Cond.fieldLink RX0 19 "OnceStore" "setCells" "I" ∈ bX0 := List.mem_append_left _ (List.mem_of_getElem? (i := 4) rfl)
theorem mX0_f_writes : Cond.fieldLink RX0 23 "OnceStore" "writes" "I" ∈ bX0 := List.mem_append_left _ (List.mem_of_getElem? (i := 5) rfl)
theorem mX0_f_powered : Cond.fieldLink RX0 26 "OnceStore" "powered" "Z" ∈ bX0 := List.mem_append_left _ (List.mem_of_getElem? (i := 6) rfl)
theorem mX0_f_writesToFailure : Cond.fieldLink RX0 30 "OnceStore" "writesToFailure" "I" ∈ bX0 := List.mem_append_left _ (List.mem_of_getElem? (i := 7) rfl)
theorem mX0_f_stagedKeys : Cond.fieldLink RX0 33 "OnceStore" "stagedKeys" "[I" ∈ bX0 := List.mem_append_left _ (List.mem_of_getElem? (i := 8) rfl)
theorem mX0_f_stagedValues : Cond.fieldLink RX0 36 "OnceStore" "stagedValues" "[I" ∈ bX0 := List.mem_append_left _ (List.mem_of_getElem? (i := 9) rfl)
theorem mX0_f_plannedLines : Cond.fieldLink RX0 39 "OnceStore" "plannedLines" "[I" ∈ bX0 := List.mem_append_left _ (List.mem_of_getElem? (i := 10) rfl)
theorem mX0_f_batchOpen : Cond.fieldLink RX0 42 "OnceStore" "batchOpen" "Z" ∈ bX0 := List.mem_append_left _ (List.mem_of_getElem? (i := 11) rfl)
theorem mX0_f_batchSize : Cond.fieldLink RX0 45 "OnceStore" "batchSize" "I" ∈ bX0 := List.mem_append_left _ (List.mem_of_getElem? (i := 12) rfl)
theorem mX0_k_122 : Cond.constant RX0 122 (65536) ∈ bX0 := List.mem_append_left _ (List.mem_of_getElem? (i := 13) rfl)
theorem mX0_cl_IAE : Cond.classLink RX0 55 "java/lang/IllegalArgumentException" ∈ bX0 := List.mem_append_left _ (List.mem_of_getElem? (i := 14) rfl)
theorem mX0_cl_ISE : Cond.classLink RX0 58 "java/lang/IllegalStateException" ∈ bX0 := List.mem_append_left _ (List.mem_of_getElem? (i := 15) rfl)
theorem mX0_k_168 : Cond.constant RX0 168 (1073741824) ∈ bX0 := List.mem_append_left _ (List.mem_of_getElem? (i := 16) rfl)
theorem mX0_k_169 : Cond.constant RX0 169 (65535) ∈ bX0 := List.mem_append_left _ (List.mem_of_getElem? (i := 17) rfl)
theorem mX0_cl_IOB : Cond.classLink RX0 109 "java/lang/IndexOutOfBoundsException" ∈ bX0 := List.mem_append_left _ (List.mem_of_getElem? (i := 18) rfl)
theorem mX0_a_int : Cond.arrayClass .int ∈ bX0 := List.mem_append_left _ (List.mem_of_getElem? (i := 19) rfl)
theorem mX0_l_obj : Cond.methodLink RX0 3 objectInit ∈ bX0 := List.mem_append_left _ (List.mem_of_getElem? (i := 20) rfl)
theorem mX0_s_obj : Cond.instanceMethod objectInit ∈ bX0 := List.mem_append_left _ (List.mem_of_getElem? (i := 21) rfl)
theorem mX0_c_obj : Cond.code objectInit ⟨#[0xb1]⟩ 1 none ∈ bX0 := List.mem_append_left _ (List.mem_of_getElem? (i := 22) rfl)
theorem mX0_l_isKey : Cond.methodLink RX0 48 yX0_isKey ∈ bX0 := List.mem_append_left _ (List.mem_of_getElem? (i := 23) rfl)
theorem mX0_s_isKey : Cond.static yX0_isKey ∈ bX0 := List.mem_append_left _ (List.mem_of_getElem? (i := 24) rfl)
theorem mX0_l_isBelow : Cond.methodLink RX0 106 yX0_isBelow ∈ bX0 := List.mem_append_left _ (List.mem_of_getElem? (i := 25) rfl)
theorem mX0_s_isBelow : Cond.static yX0_isBelow ∈ bX0 := List.mem_append_left _ (List.mem_of_getElem? (i := 26) rfl)
theorem mX0_l_isValue : Cond.methodLink RX0 52 yX0_isValue ∈ bX0 := List.mem_append_left _ (List.mem_of_getElem? (i := 27) rfl)
theorem mX0_s_isValue : Cond.static yX0_isValue ∈ bX0 := List.mem_append_left _ (List.mem_of_getElem? (i := 28) rfl)
theorem mX0_l_wordThatTakes : Cond.methodLink RX0 61 yX0_wordThatTakes ∈ bX0 := List.mem_append_left _ (List.mem_of_getElem? (i := 29) rfl)
theorem mX0_s_wordThatTakes : Cond.instanceMethod yX0_wordThatTakes ∈ bX0 := List.mem_append_left _ (List.mem_of_getElem? (i := 30) rfl)
theorem mX0_v_wordThatTakes : Cond.selects RX0 yX0_wordThatTakes yX0_wordThatTakes ∈ bX0 := List.mem_append_left _ (List.mem_of_getElem? (i := 31) rfl)
theorem mX0_l_presentWord : Cond.methodLink RX0 69 yX0_presentWord ∈ bX0 := List.mem_append_left _ (List.mem_of_getElem? (i := 32) rfl)
theorem mX0_s_presentWord : Cond.instanceMethod yX0_presentWord ∈ bX0 := List.mem_append_left _ (List.mem_of_getElem? (i := 33) rfl)
theorem mX0_v_presentWord : Cond.selects RX0 yX0_presentWord yX0_presentWord ∈ bX0 := List.mem_append_left _ (List.mem_of_getElem? (i := 34) rfl)
theorem mX0_l_tagOf : Cond.methodLink RX0 137 yX0_tagOf ∈ bX0 := List.mem_append_left _ (List.mem_of_getElem? (i := 35) rfl)
theorem mX0_s_tagOf : Cond.static yX0_tagOf ∈ bX0 := List.mem_append_left _ (List.mem_of_getElem? (i := 36) rfl)
theorem mX0_l_staysInPlace : Cond.methodLink RX0 76 yX0_staysInPlace ∈ bX0 := List.mem_append_left _ (List.mem_of_getElem? (i := 37) rfl)
theorem mX0_s_staysInPlace : Cond.instanceMethod yX0_staysInPlace ∈ bX0 := List.mem_append_left _ (List.mem_of_getElem? (i := 38) rfl)
theorem mX0_v_staysInPlace : Cond.selects RX0 yX0_staysInPlace yX0_staysInPlace ∈ bX0 := List.mem_append_left _ (List.mem_of_getElem? (i := 39) rfl)
theorem mX0_l_patternOfWord : Cond.methodLink RX0 134 yX0_patternOfWord ∈ bX0 := List.mem_append_left _ (List.mem_of_getElem? (i := 40) rfl)
theorem mX0_s_patternOfWord : Cond.static yX0_patternOfWord ∈ bX0 := List.mem_append_left _ (List.mem_of_getElem? (i := 41) rfl)
theorem mX0_l_patternOfGroup : Cond.methodLink RX0 131 yX0_patternOfGroup ∈ bX0 := List.mem_append_left _ (List.mem_of_getElem? (i := 42) rfl)
theorem mX0_s_patternOfGroup : Cond.static yX0_patternOfGroup ∈ bX0 := List.mem_append_left _ (List.mem_of_getElem? (i := 43) rfl)
theorem mX0_l_lowestFreshWord : Cond.methodLink RX0 146 yX0_lowestFreshWord ∈ bX0 := List.mem_append_left _ (List.mem_of_getElem? (i := 44) rfl)
theorem mX0_s_lowestFreshWord : Cond.instanceMethod yX0_lowestFreshWord ∈ bX0 := List.mem_append_left _ (List.mem_of_getElem? (i := 45) rfl)
theorem mX0_v_lowestFreshWord : Cond.selects RX0 yX0_lowestFreshWord yX0_lowestFreshWord ∈ bX0 := List.mem_append_left _ (List.mem_of_getElem? (i := 46) rfl)
theorem mX0_l_isFresh : Cond.methodLink RX0 140 yX0_isFresh ∈ bX0 := List.mem_append_left _ (List.mem_of_getElem? (i := 47) rfl)
theorem mX0_s_isFresh : Cond.instanceMethod yX0_isFresh ∈ bX0 := List.mem_append_left _ (List.mem_of_getElem? (i := 48) rfl)
theorem mX0_v_isFresh : Cond.selects RX0 yX0_isFresh yX0_isFresh ∈ bX0 := List.mem_append_left _ (List.mem_of_getElem? (i := 49) rfl)
theorem mX0_l_writePut : Cond.methodLink RX0 65 yX0_writePut ∈ bX0 := List.mem_append_left _ (List.mem_of_getElem? (i := 50) rfl)
theorem mX0_s_writePut : Cond.instanceMethod yX0_writePut ∈ bX0 := List.mem_append_left _ (List.mem_of_getElem? (i := 51) rfl)
theorem mX0_v_writePut : Cond.selects RX0 yX0_writePut yX0_writePut ∈ bX0 := List.mem_append_left _ (List.mem_of_getElem? (i := 52) rfl)
theorem mX0_l_write : Cond.methodLink RX0 152 yX0_write ∈ bX0 := List.mem_append_left _ (List.mem_of_getElem? (i := 53) rfl)
theorem mX0_s_write : Cond.instanceMethod yX0_write ∈ bX0 := List.mem_append_left _ (List.mem_of_getElem? (i := 54) rfl)
theorem mX0_v_write : Cond.selects RX0 yX0_write yX0_write ∈ bX0 := List.mem_append_left _ (List.mem_of_getElem? (i := 55) rfl)
theorem mX0_l_bc : Cond.methodLink RX0 123 yJ6_bitCount_0f7a4 ∈ bX0 := List.mem_append_left _ (List.mem_of_getElem? (i := 56) rfl)
theorem mX0_s_bc : Cond.static yJ6_bitCount_0f7a4 ∈ bX0 := List.mem_append_left _ (List.mem_of_getElem? (i := 57) rfl)
theorem mX0_i_bc : Cond.initialized RJ6 ∈ bX0 := List.mem_append_left _ (List.mem_of_getElem? (i := 58) rfl)
theorem mX0_c_bc : Cond.code yJ6_bitCount_0f7a4 cJ6_bitCount_0f7a4 1 (some .int) ∈ bX0 := List.mem_append_left _ (List.mem_of_getElem? (i := 59) rfl)
theorem mX0_kj1 : Cond.constant RJ6 265 (1431655765) ∈ bX0 := List.mem_append_left _ (List.mem_of_getElem? (i := 60) rfl)
theorem mX0_kj2 : Cond.constant RJ6 266 (858993459) ∈ bX0 := List.mem_append_left _ (List.mem_of_getElem? (i := 61) rfl)
theorem mX0_kj3 : Cond.constant RJ6 267 (252645135) ∈ bX0 := List.mem_append_left _ (List.mem_of_getElem? (i := 62) rfl)
theorem mX0_l_meaningOfWord : Cond.methodLink RX0 73 yX0_meaningOfWord ∈ bX0 := List.mem_append_left _ (List.mem_of_getElem? (i := 63) rfl)
theorem mX0_s_meaningOfWord : Cond.static yX0_meaningOfWord ∈ bX0 := List.mem_append_left _ (List.mem_of_getElem? (i := 64) rfl)
theorem mX0_l_meaningOfGroup : Cond.methodLink RX0 128 yX0_meaningOfGroup ∈ bX0 := List.mem_append_left _ (List.mem_of_getElem? (i := 65) rfl)
theorem mX0_s_meaningOfGroup : Cond.static yX0_meaningOfGroup ∈ bX0 := List.mem_append_left _ (List.mem_of_getElem? (i := 66) rfl)
theorem mX0_l_isStaged : Cond.methodLink RX0 80 yX0_isStaged ∈ bX0 := List.mem_append_left _ (List.mem_of_getElem? (i := 67) rfl)
theorem mX0_s_isStaged : Cond.instanceMethod yX0_isStaged ∈ bX0 := List.mem_append_left _ (List.mem_of_getElem? (i := 68) rfl)
theorem mX0_v_isStaged : Cond.selects RX0 yX0_isStaged yX0_isStaged ∈ bX0 := List.mem_append_left _ (List.mem_of_getElem? (i := 69) rfl)
theorem mX0_l_closeBatch : Cond.methodLink RX0 83 yX0_closeBatch ∈ bX0 := List.mem_append_left _ (List.mem_of_getElem? (i := 70) rfl)
theorem mX0_s_closeBatch : Cond.instanceMethod yX0_closeBatch ∈ bX0 := List.mem_append_left _ (List.mem_of_getElem? (i := 71) rfl)
theorem mX0_v_closeBatch : Cond.selects RX0 yX0_closeBatch yX0_closeBatch ∈ bX0 := List.mem_append_left _ (List.mem_of_getElem? (i := 72) rfl)
theorem mX0_l_lowestEmptyNote : Cond.methodLink RX0 86 yX0_lowestEmptyNote ∈ bX0 := List.mem_append_left _ (List.mem_of_getElem? (i := 73) rfl)
theorem mX0_s_lowestEmptyNote : Cond.instanceMethod yX0_lowestEmptyNote ∈ bX0 := List.mem_append_left _ (List.mem_of_getElem? (i := 74) rfl)
theorem mX0_v_lowestEmptyNote : Cond.selects RX0 yX0_lowestEmptyNote yX0_lowestEmptyNote ∈ bX0 := List.mem_append_left _ (List.mem_of_getElem? (i := 75) rfl)
theorem mX0_l_isEmptyNote : Cond.methodLink RX0 143 yX0_isEmptyNote ∈ bX0 := List.mem_append_left _ (List.mem_of_getElem? (i := 76) rfl)
theorem mX0_s_isEmptyNote : Cond.instanceMethod yX0_isEmptyNote ∈ bX0 := List.mem_append_left _ (List.mem_of_getElem? (i := 77) rfl)
theorem mX0_v_isEmptyNote : Cond.selects RX0 yX0_isEmptyNote yX0_isEmptyNote ∈ bX0 := List.mem_append_left _ (List.mem_of_getElem? (i := 78) rfl)
theorem mX0_l_planLines : Cond.methodLink RX0 90 yX0_planLines ∈ bX0 := List.mem_append_left _ (List.mem_of_getElem? (i := 79) rfl)
theorem mX0_s_planLines : Cond.instanceMethod yX0_planLines ∈ bX0 := List.mem_append_left _ (List.mem_of_getElem? (i := 80) rfl)
theorem mX0_v_planLines : Cond.selects RX0 yX0_planLines yX0_planLines ∈ bX0 := List.mem_append_left _ (List.mem_of_getElem? (i := 81) rfl)
theorem mX0_l_lineFor : Cond.methodLink RX0 149 yX0_lineFor ∈ bX0 := List.mem_append_left _ (List.mem_of_getElem? (i := 82) rfl)
theorem mX0_s_lineFor : Cond.static yX0_lineFor ∈ bX0 := List.mem_append_left _ (List.mem_of_getElem? (i := 83) rfl)
theorem mX0_l_writeNote : Cond.methodLink RX0 94 yX0_writeNote ∈ bX0 := List.mem_append_left _ (List.mem_of_getElem? (i := 84) rfl)
theorem mX0_s_writeNote : Cond.instanceMethod yX0_writeNote ∈ bX0 := List.mem_append_left _ (List.mem_of_getElem? (i := 85) rfl)
theorem mX0_v_writeNote : Cond.selects RX0 yX0_writeNote yX0_writeNote ∈ bX0 := List.mem_append_left _ (List.mem_of_getElem? (i := 86) rfl)
theorem mX0_l_carryOutNote : Cond.methodLink RX0 97 yX0_carryOutNote ∈ bX0 := List.mem_append_left _ (List.mem_of_getElem? (i := 87) rfl)
theorem mX0_s_carryOutNote : Cond.instanceMethod yX0_carryOutNote ∈ bX0 := List.mem_append_left _ (List.mem_of_getElem? (i := 88) rfl)
theorem mX0_v_carryOutNote : Cond.selects RX0 yX0_carryOutNote yX0_carryOutNote ∈ bX0 := List.mem_append_left _ (List.mem_of_getElem? (i := 89) rfl)
theorem mX0_l_namesWord : Cond.methodLink RX0 156 yX0_namesWord ∈ bX0 := List.mem_append_left _ (List.mem_of_getElem? (i := 90) rfl)
theorem mX0_s_namesWord : Cond.static yX0_namesWord ∈ bX0 := List.mem_append_left _ (List.mem_of_getElem? (i := 91) rfl)
theorem mX0_l_wordOfLine : Cond.methodLink RX0 165 yX0_wordOfLine ∈ bX0 := List.mem_append_left _ (List.mem_of_getElem? (i := 92) rfl)
theorem mX0_s_wordOfLine : Cond.static yX0_wordOfLine ∈ bX0 := List.mem_append_left _ (List.mem_of_getElem? (i := 93) rfl)
theorem mX0_l_keyOfLine : Cond.methodLink RX0 159 yX0_keyOfLine ∈ bX0 := List.mem_append_left _ (List.mem_of_getElem? (i := 94) rfl)
theorem mX0_s_keyOfLine : Cond.static yX0_keyOfLine ∈ bX0 := List.mem_append_left _ (List.mem_of_getElem? (i := 95) rfl)
theorem mX0_l_valueOfLine : Cond.methodLink RX0 162 yX0_valueOfLine ∈ bX0 := List.mem_append_left _ (List.mem_of_getElem? (i := 96) rfl)
theorem mX0_s_valueOfLine : Cond.static yX0_valueOfLine ∈ bX0 := List.mem_append_left _ (List.mem_of_getElem? (i := 97) rfl)
theorem mX0_l_countFreshWords : Cond.methodLink RX0 100 yX0_countFreshWords ∈ bX0 := List.mem_append_left _ (List.mem_of_getElem? (i := 98) rfl)
theorem mX0_s_countFreshWords : Cond.instanceMethod yX0_countFreshWords ∈ bX0 := List.mem_append_left _ (List.mem_of_getElem? (i := 99) rfl)
theorem mX0_v_countFreshWords : Cond.selects RX0 yX0_countFreshWords yX0_countFreshWords ∈ bX0 := List.mem_append_left _ (List.mem_of_getElem? (i := 100) rfl)
theorem mX0_l_countEmptyNotes : Cond.methodLink RX0 103 yX0_countEmptyNotes ∈ bX0 := List.mem_append_left _ (List.mem_of_getElem? (i := 101) rfl)
theorem mX0_s_countEmptyNotes : Cond.instanceMethod yX0_countEmptyNotes ∈ bX0 := List.mem_append_left _ (List.mem_of_getElem? (i := 102) rfl)
theorem mX0_v_countEmptyNotes : Cond.selects RX0 yX0_countEmptyNotes yX0_countEmptyNotes ∈ bX0 := List.mem_append_left _ (List.mem_of_getElem? (i := 103) rfl)
theorem mX0_l_countKeysWithWords : Cond.methodLink RX0 112 yX0_countKeysWithWords ∈ bX0 := List.mem_append_left _ (List.mem_of_getElem? (i := 104) rfl)
theorem mX0_s_countKeysWithWords : Cond.instanceMethod yX0_countKeysWithWords ∈ bX0 := List.mem_append_left _ (List.mem_of_getElem? (i := 105) rfl)
theorem mX0_v_countKeysWithWords : Cond.selects RX0 yX0_countKeysWithWords yX0_countKeysWithWords ∈ bX0 := List.mem_append_left _ (List.mem_of_getElem? (i := 106) rfl)
theorem mX0_l_countWords : Cond.methodLink RX0 115 yX0_countWords ∈ bX0 := List.mem_append_left _ (List.mem_of_getElem? (i := 107) rfl)
theorem mX0_s_countWords : Cond.instanceMethod yX0_countWords ∈ bX0 := List.mem_append_left _ (List.mem_of_getElem? (i := 108) rfl)
theorem mX0_v_countWords : Cond.selects RX0 yX0_countWords yX0_countWords ∈ bX0 := List.mem_append_left _ (List.mem_of_getElem? (i := 109) rfl)
theorem mX0_l_numberedWord : Cond.methodLink RX0 118 yX0_numberedWord ∈ bX0 := List.mem_append_left _ (List.mem_of_getElem? (i := 110) rfl)
theorem mX0_s_numberedWord : Cond.instanceMethod yX0_numberedWord ∈ bX0 := List.mem_append_left _ (List.mem_of_getElem? (i := 111) rfl)
theorem mX0_v_numberedWord : Cond.selects RX0 yX0_numberedWord yX0_numberedWord ∈ bX0 := List.mem_append_left _ (List.mem_of_getElem? (i := 112) rfl)
theorem mX0_c_init : Cond.code yX0_init cX0_init 1 none ∈ bX0 := List.mem_append_left _ (List.mem_of_getElem? (i := 113) rfl)
theorem mX0_c_isOn : Cond.code yX0_isOn cX0_isOn 1 (some .boolean) ∈ bX0 := List.mem_append_left _ (List.mem_of_getElem? (i := 114) rfl)
theorem mX0_c_put : Cond.code yX0_put cX0_put 5 (some .int) ∈ bX0 := List.mem_append_left _ (List.mem_of_getElem? (i := 115) rfl)
theorem mX0_c_isKey : Cond.code yX0_isKey cX0_isKey 1 (some .boolean) ∈ bX0 := List.mem_append_left _ (List.mem_of_getElem? (i := 116) rfl)
theorem mX0_c_isBelow : Cond.code yX0_isBelow cX0_isBelow 2 (some .boolean) ∈ bX0 := List.mem_append_left _ (List.mem_of_getElem? (i := 117) rfl)
theorem mX0_c_isValue : Cond.code yX0_isValue cX0_isValue 1 (some .boolean) ∈ bX0 := List.mem_append_left _ (List.mem_of_getElem? (i := 118) rfl)
theorem mX0_c_wordThatTakes : Cond.code yX0_wordThatTakes cX0_wordThatTakes 5 (some .int) ∈ bX0 := List.mem_append_left _ (List.mem_of_getElem? (i := 119) rfl)
theorem mX0_c_presentWord : Cond.code yX0_presentWord cX0_presentWord 3 (some .int) ∈ bX0 := List.mem_append_left _ (List.mem_of_getElem? (i := 120) rfl)
theorem mX0_c_tagOf : Cond.code yX0_tagOf cX0_tagOf 1 (some .int) ∈ bX0 := List.mem_append_left _ (List.mem_of_getElem? (i := 121) rfl)
theorem mX0_c_staysInPlace : Cond.code yX0_staysInPlace cX0_staysInPlace 3 (some .boolean) ∈ bX0 := List.mem_append_left _ (List.mem_of_getElem? (i := 122) rfl)
theorem mX0_c_patternOfWord : Cond.code yX0_patternOfWord cX0_patternOfWord 7 (some .int) ∈ bX0 := List.mem_append_left _ (List.mem_of_getElem? (i := 123) rfl)
theorem mX0_c_patternOfGroup : Cond.code yX0_patternOfGroup cX0_patternOfGroup 4 (some .int) ∈ bX0 := List.mem_append_left _ (List.mem_of_getElem? (i := 124) rfl)
theorem mX0_c_lowestFreshWord : Cond.code yX0_lowestFreshWord cX0_lowestFreshWord 3 (some .int) ∈ bX0 := List.mem_append_left _ (List.mem_of_getElem? (i := 125) rfl)
theorem mX0_c_isFresh : Cond.code yX0_isFresh cX0_isFresh 2 (some .boolean) ∈ bX0 := List.mem_append_left _ (List.mem_of_getElem? (i := 126) rfl)
theorem mX0_c_writePut : Cond.code yX0_writePut cX0_writePut 4 (some .boolean) ∈ bX0 := List.mem_append_left _ (List.mem_of_getElem? (i := 127) rfl)
theorem mX0_c_write : Cond.code yX0_write cX0_write 5 (some .boolean) ∈ bX0 := List.mem_append_left _ (List.mem_of_getElem? (i := 128) rfl)
theorem mX0_c_get : Cond.code yX0_get cX0_get 3 (some .int) ∈ bX0 := List.mem_append_left _ (List.mem_of_getElem? (i := 129) rfl)
theorem mX0_c_meaningOfWord : Cond.code yX0_meaningOfWord cX0_meaningOfWord 4 (some .int) ∈ bX0 := List.mem_append_left _ (List.mem_of_getElem? (i := 130) rfl)
theorem mX0_c_meaningOfGroup : Cond.code yX0_meaningOfGroup cX0_meaningOfGroup 2 (some .int) ∈ bX0 := List.mem_append_left _ (List.mem_of_getElem? (i := 131) rfl)
theorem mX0_c_wouldMove : Cond.code yX0_wouldMove cX0_wouldMove 3 (some .boolean) ∈ bX0 := List.mem_append_left _ (List.mem_of_getElem? (i := 132) rfl)
theorem mX0_c_begin : Cond.code yX0_begin cX0_begin 1 none ∈ bX0 := List.mem_append_left _ (List.mem_of_getElem? (i := 133) rfl)
theorem mX0_c_stage : Cond.code yX0_stage cX0_stage 3 (some .int) ∈ bX0 := List.mem_append_left _ (List.mem_of_getElem? (i := 134) rfl)
theorem mX0_c_isStaged : Cond.code yX0_isStaged cX0_isStaged 3 (some .boolean) ∈ bX0 := List.mem_append_left _ (List.mem_of_getElem? (i := 135) rfl)
theorem mX0_c_commit : Cond.code yX0_commit cX0_commit 4 (some .int) ∈ bX0 := List.mem_append_left _ (List.mem_of_getElem? (i := 136) rfl)
theorem mX0_c_closeBatch : Cond.code yX0_closeBatch cX0_closeBatch 1 none ∈ bX0 := List.mem_append_left _ (List.mem_of_getElem? (i := 137) rfl)
theorem mX0_c_lowestEmptyNote : Cond.code yX0_lowestEmptyNote cX0_lowestEmptyNote 2 (some .int) ∈ bX0 := List.mem_append_left _ (List.mem_of_getElem? (i := 138) rfl)
theorem mX0_c_isEmptyNote : Cond.code yX0_isEmptyNote cX0_isEmptyNote 3 (some .boolean) ∈ bX0 := List.mem_append_left _ (List.mem_of_getElem? (i := 139) rfl)
theorem mX0_c_planLines : Cond.code yX0_planLines cX0_planLines 5 (some .boolean) ∈ bX0 := List.mem_append_left _ (List.mem_of_getElem? (i := 140) rfl)
theorem mX0_c_lineFor : Cond.code yX0_lineFor cX0_lineFor 3 (some .int) ∈ bX0 := List.mem_append_left _ (List.mem_of_getElem? (i := 141) rfl)
theorem mX0_c_writeNote : Cond.code yX0_writeNote cX0_writeNote 4 (some .boolean) ∈ bX0 := List.mem_append_left _ (List.mem_of_getElem? (i := 142) rfl)
theorem mX0_c_carryOutNote : Cond.code yX0_carryOutNote cX0_carryOutNote 5 (some .boolean) ∈ bX0 := List.mem_append_left _ (List.mem_of_getElem? (i := 143) rfl)
theorem mX0_c_namesWord : Cond.code yX0_namesWord cX0_namesWord 1 (some .boolean) ∈ bX0 := List.mem_append_left _ (List.mem_of_getElem? (i := 144) rfl)
theorem mX0_c_wordOfLine : Cond.code yX0_wordOfLine cX0_wordOfLine 1 (some .int) ∈ bX0 := List.mem_append_left _ (List.mem_of_getElem? (i := 145) rfl)
theorem mX0_c_keyOfLine : Cond.code yX0_keyOfLine cX0_keyOfLine 1 (some .int) ∈ bX0 := List.mem_append_left _ (List.mem_of_getElem? (i := 146) rfl)
theorem mX0_c_valueOfLine : Cond.code yX0_valueOfLine cX0_valueOfLine 1 (some .int) ∈ bX0 := List.mem_append_left _ (List.mem_of_getElem? (i := 147) rfl)
theorem mX0_c_abandon : Cond.code yX0_abandon cX0_abandon 2 (some .int) ∈ bX0 := List.mem_append_left _ (List.mem_of_getElem? (i := 148) rfl)
theorem mX0_c_left : Cond.code yX0_left cX0_left 2 (some .int) ∈ bX0 := List.mem_append_left _ (List.mem_of_getElem? (i := 149) rfl)
theorem mX0_c_countFreshWords : Cond.code yX0_countFreshWords cX0_countFreshWords 3 (some .int) ∈ bX0 := List.mem_append_left _ (List.mem_of_getElem? (i := 150) rfl)
theorem mX0_c_countEmptyNotes : Cond.code yX0_countEmptyNotes cX0_countEmptyNotes 3 (some .int) ∈ bX0 := List.mem_append_left _ (List.mem_of_getElem? (i := 151) rfl)
theorem mX0_c_cell : Cond.code yX0_cell cX0_cell 4 (some .int) ∈ bX0 := List.mem_append_left _ (List.mem_of_getElem? (i := 152) rfl)
theorem mX0_c_failAfter : Cond.code yX0_failAfter cX0_failAfter 2 none ∈ bX0 := List.mem_append_left _ (List.mem_of_getElem? (i := 153) rfl)
theorem mX0_c_mount : Cond.code yX0_mount cX0_mount 2 (some .int) ∈ bX0 := List.mem_append_left _ (List.mem_of_getElem? (i := 154) rfl)
theorem mX0_c_countKeysWithWords : Cond.code yX0_countKeysWithWords cX0_countKeysWithWords 3 (some .int) ∈ bX0 := List.mem_append_left _ (List.mem_of_getElem? (i := 155) rfl)
theorem mX0_c_words : Cond.code yX0_words cX0_words 2 (some .int) ∈ bX0 := List.mem_append_left _ (List.mem_of_getElem? (i := 156) rfl)
theorem mX0_c_countWords : Cond.code yX0_countWords cX0_countWords 4 (some .int) ∈ bX0 := List.mem_append_left _ (List.mem_of_getElem? (i := 157) rfl)
theorem mX0_c_history : Cond.code yX0_history cX0_history 4 (some .int) ∈ bX0 := List.mem_append_left _ (List.mem_of_getElem? (i := 158) rfl)
theorem mX0_c_numberedWord : Cond.code yX0_numberedWord cX0_numberedWord 5 (some .int) ∈ bX0 := List.mem_append_left _ (List.mem_of_getElem? (i := 159) rfl)
theorem mX0_i_IAE : Cond.initialized "java/lang/IllegalArgumentException" ∈ bX0 := List.mem_append_left _ (List.mem_of_getElem? (i := 160) rfl)
theorem mX0_i_ISE : Cond.initialized "java/lang/IllegalStateException" ∈ bX0 := List.mem_append_left _ (List.mem_of_getElem? (i := 161) rfl)
theorem mX0_i_IOB : Cond.initialized "java/lang/IndexOutOfBoundsException" ∈ bX0 := List.mem_append_left _ (List.mem_of_getElem? (i := 162) rfl)
def wsX0_init : List Cond := .code yX0_init cX0_init 1 none :: bX0
def wsX0_isOn : List Cond := .code yX0_isOn cX0_isOn 1 (some .boolean) :: bX0
def wsX0_put : List Cond := .code yX0_put cX0_put 5 (some .int) :: bX0
def wsX0_isKey : List Cond := .code yX0_isKey cX0_isKey 1 (some .boolean) :: bX0
def wsX0_isBelow : List Cond := .code yX0_isBelow cX0_isBelow 2 (some .boolean) :: bX0
def wsX0_isValue : List Cond := .code yX0_isValue cX0_isValue 1 (some .boolean) :: bX0
def wsX0_wordThatTakes : List Cond := .code yX0_wordThatTakes cX0_wordThatTakes 5 (some .int) :: bX0
def wsX0_presentWord : List Cond := .code yX0_presentWord cX0_presentWord 3 (some .int) :: bX0
def wsX0_tagOf : List Cond := .code yX0_tagOf cX0_tagOf 1 (some .int) :: bX0
def wsX0_staysInPlace : List Cond := .code yX0_staysInPlace cX0_staysInPlace 3 (some .boolean) :: bX0
def wsX0_patternOfWord : List Cond := .code yX0_patternOfWord cX0_patternOfWord 7 (some .int) :: bX0
def wsX0_patternOfGroup : List Cond := .code yX0_patternOfGroup cX0_patternOfGroup 4 (some .int) :: bX0
def wsX0_lowestFreshWord : List Cond := .code yX0_lowestFreshWord cX0_lowestFreshWord 3 (some .int) :: bX0
def wsX0_isFresh : List Cond := .code yX0_isFresh cX0_isFresh 2 (some .boolean) :: bX0
def wsX0_writePut : List Cond := .code yX0_writePut cX0_writePut 4 (some .boolean) :: bX0
def wsX0_write : List Cond := .code yX0_write cX0_write 5 (some .boolean) :: bX0
def wsX0_get : List Cond := .code yX0_get cX0_get 3 (some .int) :: bX0
def wsX0_meaningOfWord : List Cond := .code yX0_meaningOfWord cX0_meaningOfWord 4 (some .int) :: bX0
def wsX0_meaningOfGroup : List Cond := .code yX0_meaningOfGroup cX0_meaningOfGroup 2 (some .int) :: bX0
def wsX0_wouldMove : List Cond := .code yX0_wouldMove cX0_wouldMove 3 (some .boolean) :: bX0
def wsX0_begin : List Cond := .code yX0_begin cX0_begin 1 none :: bX0
def wsX0_stage : List Cond := .code yX0_stage cX0_stage 3 (some .int) :: bX0
def wsX0_isStaged : List Cond := .code yX0_isStaged cX0_isStaged 3 (some .boolean) :: bX0
def wsX0_commit : List Cond := .code yX0_commit cX0_commit 4 (some .int) :: bX0
def wsX0_closeBatch : List Cond := .code yX0_closeBatch cX0_closeBatch 1 none :: bX0
def wsX0_lowestEmptyNote : List Cond := .code yX0_lowestEmptyNote cX0_lowestEmptyNote 2 (some .int) :: bX0
def wsX0_isEmptyNote : List Cond := .code yX0_isEmptyNote cX0_isEmptyNote 3 (some .boolean) :: bX0
def wsX0_planLines : List Cond := .code yX0_planLines cX0_planLines 5 (some .boolean) :: bX0
def wsX0_lineFor : List Cond := .code yX0_lineFor cX0_lineFor 3 (some .int) :: bX0
def wsX0_writeNote : List Cond := .code yX0_writeNote cX0_writeNote 4 (some .boolean) :: bX0
def wsX0_carryOutNote : List Cond := .code yX0_carryOutNote cX0_carryOutNote 5 (some .boolean) :: bX0
def wsX0_namesWord : List Cond := .code yX0_namesWord cX0_namesWord 1 (some .boolean) :: bX0
def wsX0_wordOfLine : List Cond := .code yX0_wordOfLine cX0_wordOfLine 1 (some .int) :: bX0
def wsX0_keyOfLine : List Cond := .code yX0_keyOfLine cX0_keyOfLine 1 (some .int) :: bX0
def wsX0_valueOfLine : List Cond := .code yX0_valueOfLine cX0_valueOfLine 1 (some .int) :: bX0
def wsX0_abandon : List Cond := .code yX0_abandon cX0_abandon 2 (some .int) :: bX0
def wsX0_left : List Cond := .code yX0_left cX0_left 2 (some .int) :: bX0
def wsX0_countFreshWords : List Cond := .code yX0_countFreshWords cX0_countFreshWords 3 (some .int) :: bX0
def wsX0_countEmptyNotes : List Cond := .code yX0_countEmptyNotes cX0_countEmptyNotes 3 (some .int) :: bX0
def wsX0_cell : List Cond := .code yX0_cell cX0_cell 4 (some .int) :: bX0
def wsX0_failAfter : List Cond := .code yX0_failAfter cX0_failAfter 2 none :: bX0
def wsX0_mount : List Cond := .code yX0_mount cX0_mount 2 (some .int) :: bX0
def wsX0_countKeysWithWords : List Cond := .code yX0_countKeysWithWords cX0_countKeysWithWords 3 (some .int) :: bX0
def wsX0_words : List Cond := .code yX0_words cX0_words 2 (some .int) :: bX0
def wsX0_countWords : List Cond := .code yX0_countWords cX0_countWords 4 (some .int) :: bX0
def wsX0_history : List Cond := .code yX0_history cX0_history 4 (some .int) :: bX0
def wsX0_numberedWord : List Cond := .code yX0_numberedWord cX0_numberedWord 5 (some .int) :: bX0
theorem goX0_isKey : GoodIn bX0 (wsS RX0 48 yX0_isKey wsX0_isKey) := goS gdX0 mX0_l_isKey mX0_s_isKey mX0_init mX0_c_isKey
theorem goX0_isBelow : GoodIn bX0 (wsS RX0 106 yX0_isBelow wsX0_isBelow) := goS gdX0 mX0_l_isBelow mX0_s_isBelow mX0_init mX0_c_isBelow
theorem goX0_isValue : GoodIn bX0 (wsS RX0 52 yX0_isValue wsX0_isValue) := goS gdX0 mX0_l_isValue mX0_s_isValue mX0_init mX0_c_isValue
theorem goX0_wordThatTakes : GoodIn bX0 (wsV RX0 61 RX0 yX0_wordThatTakes wsX0_wordThatTakes) := goV gdX0 mX0_l_wordThatTakes mX0_s_wordThatTakes mX0_v_wordThatTakes mX0_init mX0_c_wordThatTakes
theorem goX0_presentWord : GoodIn bX0 (wsV RX0 69 RX0 yX0_presentWord wsX0_presentWord) := goV gdX0 mX0_l_presentWord mX0_s_presentWord mX0_v_presentWord mX0_init mX0_c_presentWord
theorem goX0_tagOf : GoodIn bX0 (wsS RX0 137 yX0_tagOf wsX0_tagOf) := goS gdX0 mX0_l_tagOf mX0_s_tagOf mX0_init mX0_c_tagOf
theorem goX0_staysInPlace : GoodIn bX0 (wsV RX0 76 RX0 yX0_staysInPlace wsX0_staysInPlace) := goV gdX0 mX0_l_staysInPlace mX0_s_staysInPlace mX0_v_staysInPlace mX0_init mX0_c_staysInPlace
theorem goX0_patternOfWord : GoodIn bX0 (wsS RX0 134 yX0_patternOfWord wsX0_patternOfWord) := goS gdX0 mX0_l_patternOfWord mX0_s_patternOfWord mX0_init mX0_c_patternOfWord
theorem goX0_patternOfGroup : GoodIn bX0 (wsS RX0 131 yX0_patternOfGroup wsX0_patternOfGroup) := goS gdX0 mX0_l_patternOfGroup mX0_s_patternOfGroup mX0_init mX0_c_patternOfGroup
theorem goX0_lowestFreshWord : GoodIn bX0 (wsV RX0 146 RX0 yX0_lowestFreshWord wsX0_lowestFreshWord) := goV gdX0 mX0_l_lowestFreshWord mX0_s_lowestFreshWord mX0_v_lowestFreshWord mX0_init mX0_c_lowestFreshWord
theorem goX0_isFresh : GoodIn bX0 (wsV RX0 140 RX0 yX0_isFresh wsX0_isFresh) := goV gdX0 mX0_l_isFresh mX0_s_isFresh mX0_v_isFresh mX0_init mX0_c_isFresh
theorem goX0_writePut : GoodIn bX0 (wsV RX0 65 RX0 yX0_writePut wsX0_writePut) := goV gdX0 mX0_l_writePut mX0_s_writePut mX0_v_writePut mX0_init mX0_c_writePut
theorem goX0_write : GoodIn bX0 (wsV RX0 152 RX0 yX0_write wsX0_write) := goV gdX0 mX0_l_write mX0_s_write mX0_v_write mX0_init mX0_c_write
theorem goX0_meaningOfWord : GoodIn bX0 (wsS RX0 73 yX0_meaningOfWord wsX0_meaningOfWord) := goS gdX0 mX0_l_meaningOfWord mX0_s_meaningOfWord mX0_init mX0_c_meaningOfWord
theorem goX0_meaningOfGroup : GoodIn bX0 (wsS RX0 128 yX0_meaningOfGroup wsX0_meaningOfGroup) := goS gdX0 mX0_l_meaningOfGroup mX0_s_meaningOfGroup mX0_init mX0_c_meaningOfGroup
theorem goX0_isStaged : GoodIn bX0 (wsV RX0 80 RX0 yX0_isStaged wsX0_isStaged) := goV gdX0 mX0_l_isStaged mX0_s_isStaged mX0_v_isStaged mX0_init mX0_c_isStaged
theorem goX0_closeBatch : GoodIn bX0 (wsV RX0 83 RX0 yX0_closeBatch wsX0_closeBatch) := goV gdX0 mX0_l_closeBatch mX0_s_closeBatch mX0_v_closeBatch mX0_init mX0_c_closeBatch
theorem goX0_lowestEmptyNote : GoodIn bX0 (wsV RX0 86 RX0 yX0_lowestEmptyNote wsX0_lowestEmptyNote) := goV gdX0 mX0_l_lowestEmptyNote mX0_s_lowestEmptyNote mX0_v_lowestEmptyNote mX0_init mX0_c_lowestEmptyNote
theorem goX0_isEmptyNote : GoodIn bX0 (wsV RX0 143 RX0 yX0_isEmptyNote wsX0_isEmptyNote) := goV gdX0 mX0_l_isEmptyNote mX0_s_isEmptyNote mX0_v_isEmptyNote mX0_init mX0_c_isEmptyNote
theorem goX0_planLines : GoodIn bX0 (wsV RX0 90 RX0 yX0_planLines wsX0_planLines) := goV gdX0 mX0_l_planLines mX0_s_planLines mX0_v_planLines mX0_init mX0_c_planLines
theorem goX0_lineFor : GoodIn bX0 (wsS RX0 149 yX0_lineFor wsX0_lineFor) := goS gdX0 mX0_l_lineFor mX0_s_lineFor mX0_init mX0_c_lineFor
theorem goX0_writeNote : GoodIn bX0 (wsV RX0 94 RX0 yX0_writeNote wsX0_writeNote) := goV gdX0 mX0_l_writeNote mX0_s_writeNote mX0_v_writeNote mX0_init mX0_c_writeNote
theorem goX0_carryOutNote : GoodIn bX0 (wsV RX0 97 RX0 yX0_carryOutNote wsX0_carryOutNote) := goV gdX0 mX0_l_carryOutNote mX0_s_carryOutNote mX0_v_carryOutNote mX0_init mX0_c_carryOutNote
theorem goX0_namesWord : GoodIn bX0 (wsS RX0 156 yX0_namesWord wsX0_namesWord) := goS gdX0 mX0_l_namesWord mX0_s_namesWord mX0_init mX0_c_namesWord
theorem goX0_wordOfLine : GoodIn bX0 (wsS RX0 165 yX0_wordOfLine wsX0_wordOfLine) := goS gdX0 mX0_l_wordOfLine mX0_s_wordOfLine mX0_init mX0_c_wordOfLine
theorem goX0_keyOfLine : GoodIn bX0 (wsS RX0 159 yX0_keyOfLine wsX0_keyOfLine) := goS gdX0 mX0_l_keyOfLine mX0_s_keyOfLine mX0_init mX0_c_keyOfLine
theorem goX0_valueOfLine : GoodIn bX0 (wsS RX0 162 yX0_valueOfLine wsX0_valueOfLine) := goS gdX0 mX0_l_valueOfLine mX0_s_valueOfLine mX0_init mX0_c_valueOfLine
theorem goX0_countFreshWords : GoodIn bX0 (wsV RX0 100 RX0 yX0_countFreshWords wsX0_countFreshWords) := goV gdX0 mX0_l_countFreshWords mX0_s_countFreshWords mX0_v_countFreshWords mX0_init mX0_c_countFreshWords
theorem goX0_countEmptyNotes : GoodIn bX0 (wsV RX0 103 RX0 yX0_countEmptyNotes wsX0_countEmptyNotes) := goV gdX0 mX0_l_countEmptyNotes mX0_s_countEmptyNotes mX0_v_countEmptyNotes mX0_init mX0_c_countEmptyNotes
theorem goX0_countKeysWithWords : GoodIn bX0 (wsV RX0 112 RX0 yX0_countKeysWithWords wsX0_countKeysWithWords) := goV gdX0 mX0_l_countKeysWithWords mX0_s_countKeysWithWords mX0_v_countKeysWithWords mX0_init mX0_c_countKeysWithWords
theorem goX0_countWords : GoodIn bX0 (wsV RX0 115 RX0 yX0_countWords wsX0_countWords) := goV gdX0 mX0_l_countWords mX0_s_countWords mX0_v_countWords mX0_init mX0_c_countWords
theorem goX0_numberedWord : GoodIn bX0 (wsV RX0 118 RX0 yX0_numberedWord wsX0_numberedWord) := goV gdX0 mX0_l_numberedWord mX0_s_numberedWord mX0_v_numberedWord mX0_init mX0_c_numberedWord
def litX1 : List Cond := [.initialized RX1, .fieldLink RX1 33 "OnceStoreModel" "thrown" "I", .fieldLink RX1 7 "OnceStoreModel" "wordCells" "[Z", .fieldLink RX1 13 "OnceStoreModel" "tagCells" "[Z", .fieldLink RX1 16 "OnceStoreModel" "lineCells" "[Z", .fieldLink RX1 71 "OnceStoreModel" "writes" "I", .fieldLink RX1 67 "OnceStoreModel" "off" "Z", .fieldLink RX1 19 "OnceStoreModel" "until" "I", .fieldLink RX1 108 "OnceStoreModel" "open" "Z", .fieldLink RX1 122 "OnceStoreModel" "staged" "I", .fieldLink RX1 23 "OnceStoreModel" "keys" "[I", .fieldLink RX1 27 "OnceStoreModel" "values" "[I", .fieldLink RX1 30 "OnceStoreModel" "takers" "[I", .constant RX1 85 (65536), .constantLong RX1 135 (65536), .constantLong RX1 137 (4194304), .constantLong RX1 139 (1073741824), .constantLong RX1 145 (3), .constantLong RX1 147 (256), .constantLong RX1 149 (64), .arrayClass .int, .arrayClass .boolean, .methodLink RX1 1 objectInit, .instanceMethod objectInit, .code objectInit ⟨#[0xb1]⟩ 1 none, .methodLink RX1 102 yX1_isKey, .static yX1_isKey, .methodLink RX1 105 yX1_isValue, .static yX1_isValue, .methodLink RX1 111 yX1_taker, .instanceMethod yX1_taker, .selects RX1 yX1_taker yX1_taker, .methodLink RX1 86 yX1_present, .instanceMethod yX1_present, .selects RX1 yX1_present yX1_present, .methodLink RX1 53 yX1_tag, .instanceMethod yX1_tag, .selects RX1 yX1_tag yX1_tag, .methodLink RX1 89 yX1_comesTo, .instanceMethod yX1_comesTo, .selects RX1 yX1_comesTo yX1_comesTo, .methodLink RX1 46 yX1_pattern, .instanceMethod yX1_pattern, .selects RX1 yX1_pattern yX1_pattern, .methodLink RX1 50 yX1_better, .instanceMethod yX1_better, .selects RX1 yX1_better yX1_better, .methodLink RX1 43 yX1_meaning, .static yX1_meaning, .methodLink RX1 36 yX1_size, .static yX1_size, .methodLink RX1 40 yX1_single, .static yX1_single, .methodLink RX1 92 yX1_freshFrom, .instanceMethod yX1_freshFrom, .selects RX1 yX1_freshFrom yX1_freshFrom, .methodLink RX1 56 yX1_isFresh, .instanceMethod yX1_isFresh, .selects RX1 yX1_isFresh yX1_isFresh, .methodLink RX1 115 yX1_perform, .instanceMethod yX1_perform, .selects RX1 yX1_perform yX1_perform, .methodLink RX1 95 yX1_writeWord, .instanceMethod yX1_writeWord, .selects RX1 yX1_writeWord yX1_writeWord, .methodLink RX1 74 yX1_valueIs, .instanceMethod yX1_valueIs, .selects RX1 yX1_valueIs yX1_valueIs, .methodLink RX1 82 yX1_valueOf, .instanceMethod yX1_valueOf, .selects RX1 yX1_valueOf yX1_valueOf, .methodLink RX1 78 yX1_mayWrite, .instanceMethod yX1_mayWrite, .selects RX1 yX1_mayWrite yX1_mayWrite, .methodLink RX1 99 yX1_writeTag, .instanceMethod yX1_writeTag, .selects RX1 yX1_writeTag yX1_writeTag, .methodLink RX1 119 yX1_moves, .instanceMethod yX1_moves, .selects RX1 yX1_moves yX1_moves, .methodLink RX1 125 yX1_isStaged, .instanceMethod yX1_isStaged, .selects RX1 yX1_isStaged yX1_isStaged, .methodLink RX1 128 yX1_emptyNote, .instanceMethod yX1_emptyNote, .selects RX1 yX1_emptyNote yX1_emptyNote, .methodLink RX1 64 yX1_isEmptyNote, .instanceMethod yX1_isEmptyNote, .selects RX1 yX1_isEmptyNote yX1_isEmptyNote, .methodLink RX1 60 yX1_line, .instanceMethod yX1_line, .selects RX1 yX1_line yX1_line, .methodLink RX1 132 yX1_share, .instanceMethod yX1_share, .selects RX1 yX1_share yX1_share, .methodLink RX1 141 yX1_writeLine, .instanceMethod yX1_writeLine, .selects RX1 yX1_writeLine yX1_writeLine, .methodLink RX1 151 yX1_finish, .instanceMethod yX1_finish, .selects RX1 yX1_finish yX1_finish, .methodLink RX1 155 yX1_countOf, .static yX1_countOf, .code yX1_init cX1_init 1 none, .code yX1_thrown cX1_thrown 1 (some .int), .code yX1_put cX1_put 5 (some .int), .code yX1_isKey cX1_isKey 1 (some .boolean), .code yX1_isValue cX1_isValue 1 (some .boolean), .code yX1_taker cX1_taker 5 (some .int), .code yX1_present cX1_present 3 (some .int), .code yX1_tag cX1_tag 4 (some .int), .code yX1_comesTo cX1_comesTo 4 (some .boolean), .code yX1_pattern cX1_pattern 5 (some .int), .code yX1_better cX1_better 6 (some .int), .code yX1_meaning cX1_meaning 1 (some .int), .code yX1_size cX1_size 1 (some .int), .code yX1_single cX1_single 1 (some .int), .code yX1_freshFrom cX1_freshFrom 3 (some .int), .code yX1_isFresh cX1_isFresh 4 (some .boolean), .code yX1_perform cX1_perform 4 none, .code yX1_writeWord cX1_writeWord 6 none, .code yX1_valueIs cX1_valueIs 3 (some .boolean), .code yX1_valueOf cX1_valueOf 4 (some .int), .code yX1_mayWrite cX1_mayWrite 1 (some .boolean), .code yX1_writeTag cX1_writeTag 4 none, .code yX1_get cX1_get 3 (some .int), .code yX1_wouldMove cX1_wouldMove 3 (some .boolean), .code yX1_moves cX1_moves 4 (some .boolean), .code yX1_begin cX1_begin 1 none, .code yX1_stage cX1_stage 3 (some .int), .code yX1_isStaged cX1_isStaged 4 (some .boolean), .code yX1_abandon cX1_abandon 1 (some .int), .code yX1_commit cX1_commit 4 (some .int), .code yX1_emptyNote cX1_emptyNote 2 (some .int), .code yX1_isEmptyNote cX1_isEmptyNote 3 (some .boolean), .code yX1_line cX1_line 5 (some .long), .code yX1_share cX1_share 3 (some .boolean), .code yX1_writeLine cX1_writeLine 5 none, .code yX1_failAfter cX1_failAfter 2 none, .code yX1_isOn cX1_isOn 1 (some .boolean), .code yX1_mount cX1_mount 3 (some .int), .code yX1_finish cX1_finish 5 none, .code yX1_left cX1_left 4 (some .int), .code yX1_countOf cX1_countOf 4 (some .int), .code yX1_cell cX1_cell 7 (some .int), .code yX1_words cX1_words 4 (some .int), .code yX1_history cX1_history 5 (some .int)]
def bX1 : List Cond := litX1 ++ (wsX10)
theorem gdX1 : bX1.all goodWord = true := by decide +kernel
theorem inX1 : ∀ w ∈ wsX10, w ∈ bX1 := fun _ h => List.mem_append_right _ h
theorem mX1_init : Cond.initialized RX1 ∈ bX1 := List.mem_append_left _ (List.mem_of_getElem? (i := 0) rfl)
theorem mX1_f_thrown : Cond.fieldLink RX1 33 "OnceStoreModel" "thrown" "I" ∈ bX1 := List.mem_append_left _ (List.mem_of_getElem? (i := 1) rfl)
theorem mX1_f_wordCells : Cond.fieldLink RX1 7 "OnceStoreModel" "wordCells" "[Z" ∈ bX1 := List.mem_append_left _ (List.mem_of_getElem? (i := 2) rfl)
theorem mX1_f_tagCells : Cond.fieldLink RX1 13 "OnceStoreModel" "tagCells" "[Z" ∈ bX1 := List.mem_append_left _ (List.mem_of_getElem? (i := 3) rfl)
theorem mX1_f_lineCells : Cond.fieldLink RX1 16 "OnceStoreModel" "lineCells" "[Z" ∈ bX1 := List.mem_append_left _ (List.mem_of_getElem? (i := 4) rfl)
theorem mX1_f_writes : Cond.fieldLink RX1 71 "OnceStoreModel" "writes" "I" ∈ bX1 := List.mem_append_left _ (List.mem_of_getElem? (i := 5) rfl)
theorem mX1_f_off : Cond.fieldLink RX1 67 "OnceStoreModel" "off" "Z" ∈ bX1 := List.mem_append_left _ (List.mem_of_getElem? (i := 6) rfl)
theorem mX1_f_until : Cond.fieldLink RX1 19 "OnceStoreModel" "until" "I" ∈ bX1 := List.mem_append_left _ (List.mem_of_getElem? (i := 7) rfl)
theorem mX1_f_open : Cond.fieldLink RX1 108 "OnceStoreModel" "open" "Z" ∈ bX1 := List.mem_append_left _ (List.mem_of_getElem? (i := 8) rfl)
theorem mX1_f_staged : Cond.fieldLink RX1 122 "OnceStoreModel" "staged" "I" ∈ bX1 := List.mem_append_left _ (List.mem_of_getElem? (i := 9) rfl)
theorem mX1_f_keys : Cond.fieldLink RX1 23 "OnceStoreModel" "keys" "[I" ∈ bX1 := List.mem_append_left _ (List.mem_of_getElem? (i := 10) rfl)
theorem mX1_f_values : Cond.fieldLink RX1 27 "OnceStoreModel" "values" "[I" ∈ bX1 := List.mem_append_left _ (List.mem_of_getElem? (i := 11) rfl)
theorem mX1_f_takers : Cond.fieldLink RX1 30 "OnceStoreModel" "takers" "[I" ∈ bX1 := List.mem_append_left _ (List.mem_of_getElem? (i := 12) rfl)
theorem mX1_k_85 : Cond.constant RX1 85 (65536) ∈ bX1 := List.mem_append_left _ (List.mem_of_getElem? (i := 13) rfl)
theorem mX1_k_135 : Cond.constantLong RX1 135 (65536) ∈ bX1 := List.mem_append_left _ (List.mem_of_getElem? (i := 14) rfl)
theorem mX1_k_137 : Cond.constantLong RX1 137 (4194304) ∈ bX1 := List.mem_append_left _ (List.mem_of_getElem? (i := 15) rfl)
theorem mX1_k_139 : Cond.constantLong RX1 139 (1073741824) ∈ bX1 := List.mem_append_left _ (List.mem_of_getElem? (i := 16) rfl)
theorem mX1_k_145 : Cond.constantLong RX1 145 (3) ∈ bX1 := List.mem_append_left _ (List.mem_of_getElem? (i := 17) rfl)
theorem mX1_k_147 : Cond.constantLong RX1 147 (256) ∈ bX1 := List.mem_append_left _ (List.mem_of_getElem? (i := 18) rfl)
theorem mX1_k_149 : Cond.constantLong RX1 149 (64) ∈ bX1 := List.mem_append_left _ (List.mem_of_getElem? (i := 19) rfl)
theorem mX1_a_int : Cond.arrayClass .int ∈ bX1 := List.mem_append_left _ (List.mem_of_getElem? (i := 20) rfl)
theorem mX1_a_boolean : Cond.arrayClass .boolean ∈ bX1 := List.mem_append_left _ (List.mem_of_getElem? (i := 21) rfl)
theorem mX1_l_obj : Cond.methodLink RX1 1 objectInit ∈ bX1 := List.mem_append_left _ (List.mem_of_getElem? (i := 22) rfl)
theorem mX1_s_obj : Cond.instanceMethod objectInit ∈ bX1 := List.mem_append_left _ (List.mem_of_getElem? (i := 23) rfl)
theorem mX1_c_obj : Cond.code objectInit ⟨#[0xb1]⟩ 1 none ∈ bX1 := List.mem_append_left _ (List.mem_of_getElem? (i := 24) rfl)
theorem mX1_l_isKey : Cond.methodLink RX1 102 yX1_isKey ∈ bX1 := List.mem_append_left _ (List.mem_of_getElem? (i := 25) rfl)
theorem mX1_s_isKey : Cond.static yX1_isKey ∈ bX1 := List.mem_append_left _ (List.mem_of_getElem? (i := 26) rfl)
theorem mX1_l_isValue : Cond.methodLink RX1 105 yX1_isValue ∈ bX1 := List.mem_append_left _ (List.mem_of_getElem? (i := 27) rfl)
theorem mX1_s_isValue : Cond.static yX1_isValue ∈ bX1 := List.mem_append_left _ (List.mem_of_getElem? (i := 28) rfl)
theorem mX1_l_taker : Cond.methodLink RX1 111 yX1_taker ∈ bX1 := List.mem_append_left _ (List.mem_of_getElem? (i := 29) rfl)
theorem mX1_s_taker : Cond.instanceMethod yX1_taker ∈ bX1 := List.mem_append_left _ (List.mem_of_getElem? (i := 30) rfl)
theorem mX1_v_taker : Cond.selects RX1 yX1_taker yX1_taker ∈ bX1 := List.mem_append_left _ (List.mem_of_getElem? (i := 31) rfl)
theorem mX1_l_present : Cond.methodLink RX1 86 yX1_present ∈ bX1 := List.mem_append_left _ (List.mem_of_getElem? (i := 32) rfl)
theorem mX1_s_present : Cond.instanceMethod yX1_present ∈ bX1 := List.mem_append_left _ (List.mem_of_getElem? (i := 33) rfl)
theorem mX1_v_present : Cond.selects RX1 yX1_present yX1_present ∈ bX1 := List.mem_append_left _ (List.mem_of_getElem? (i := 34) rfl)
theorem mX1_l_tag : Cond.methodLink RX1 53 yX1_tag ∈ bX1 := List.mem_append_left _ (List.mem_of_getElem? (i := 35) rfl)
theorem mX1_s_tag : Cond.instanceMethod yX1_tag ∈ bX1 := List.mem_append_left _ (List.mem_of_getElem? (i := 36) rfl)
theorem mX1_v_tag : Cond.selects RX1 yX1_tag yX1_tag ∈ bX1 := List.mem_append_left _ (List.mem_of_getElem? (i := 37) rfl)
theorem mX1_l_comesTo : Cond.methodLink RX1 89 yX1_comesTo ∈ bX1 := List.mem_append_left _ (List.mem_of_getElem? (i := 38) rfl)
theorem mX1_s_comesTo : Cond.instanceMethod yX1_comesTo ∈ bX1 := List.mem_append_left _ (List.mem_of_getElem? (i := 39) rfl)
theorem mX1_v_comesTo : Cond.selects RX1 yX1_comesTo yX1_comesTo ∈ bX1 := List.mem_append_left _ (List.mem_of_getElem? (i := 40) rfl)
theorem mX1_l_pattern : Cond.methodLink RX1 46 yX1_pattern ∈ bX1 := List.mem_append_left _ (List.mem_of_getElem? (i := 41) rfl)
theorem mX1_s_pattern : Cond.instanceMethod yX1_pattern ∈ bX1 := List.mem_append_left _ (List.mem_of_getElem? (i := 42) rfl)
theorem mX1_v_pattern : Cond.selects RX1 yX1_pattern yX1_pattern ∈ bX1 := List.mem_append_left _ (List.mem_of_getElem? (i := 43) rfl)
theorem mX1_l_better : Cond.methodLink RX1 50 yX1_better ∈ bX1 := List.mem_append_left _ (List.mem_of_getElem? (i := 44) rfl)
theorem mX1_s_better : Cond.instanceMethod yX1_better ∈ bX1 := List.mem_append_left _ (List.mem_of_getElem? (i := 45) rfl)
theorem mX1_v_better : Cond.selects RX1 yX1_better yX1_better ∈ bX1 := List.mem_append_left _ (List.mem_of_getElem? (i := 46) rfl)
theorem mX1_l_meaning : Cond.methodLink RX1 43 yX1_meaning ∈ bX1 := List.mem_append_left _ (List.mem_of_getElem? (i := 47) rfl)
theorem mX1_s_meaning : Cond.static yX1_meaning ∈ bX1 := List.mem_append_left _ (List.mem_of_getElem? (i := 48) rfl)
theorem mX1_l_size : Cond.methodLink RX1 36 yX1_size ∈ bX1 := List.mem_append_left _ (List.mem_of_getElem? (i := 49) rfl)
theorem mX1_s_size : Cond.static yX1_size ∈ bX1 := List.mem_append_left _ (List.mem_of_getElem? (i := 50) rfl)
theorem mX1_l_single : Cond.methodLink RX1 40 yX1_single ∈ bX1 := List.mem_append_left _ (List.mem_of_getElem? (i := 51) rfl)
theorem mX1_s_single : Cond.static yX1_single ∈ bX1 := List.mem_append_left _ (List.mem_of_getElem? (i := 52) rfl)
theorem mX1_l_freshFrom : Cond.methodLink RX1 92 yX1_freshFrom ∈ bX1 := List.mem_append_left _ (List.mem_of_getElem? (i := 53) rfl)
theorem mX1_s_freshFrom : Cond.instanceMethod yX1_freshFrom ∈ bX1 := List.mem_append_left _ (List.mem_of_getElem? (i := 54) rfl)
theorem mX1_v_freshFrom : Cond.selects RX1 yX1_freshFrom yX1_freshFrom ∈ bX1 := List.mem_append_left _ (List.mem_of_getElem? (i := 55) rfl)
theorem mX1_l_isFresh : Cond.methodLink RX1 56 yX1_isFresh ∈ bX1 := List.mem_append_left _ (List.mem_of_getElem? (i := 56) rfl)
theorem mX1_s_isFresh : Cond.instanceMethod yX1_isFresh ∈ bX1 := List.mem_append_left _ (List.mem_of_getElem? (i := 57) rfl)
theorem mX1_v_isFresh : Cond.selects RX1 yX1_isFresh yX1_isFresh ∈ bX1 := List.mem_append_left _ (List.mem_of_getElem? (i := 58) rfl)
theorem mX1_l_perform : Cond.methodLink RX1 115 yX1_perform ∈ bX1 := List.mem_append_left _ (List.mem_of_getElem? (i := 59) rfl)
theorem mX1_s_perform : Cond.instanceMethod yX1_perform ∈ bX1 := List.mem_append_left _ (List.mem_of_getElem? (i := 60) rfl)
theorem mX1_v_perform : Cond.selects RX1 yX1_perform yX1_perform ∈ bX1 := List.mem_append_left _ (List.mem_of_getElem? (i := 61) rfl)
theorem mX1_l_writeWord : Cond.methodLink RX1 95 yX1_writeWord ∈ bX1 := List.mem_append_left _ (List.mem_of_getElem? (i := 62) rfl)
theorem mX1_s_writeWord : Cond.instanceMethod yX1_writeWord ∈ bX1 := List.mem_append_left _ (List.mem_of_getElem? (i := 63) rfl)
theorem mX1_v_writeWord : Cond.selects RX1 yX1_writeWord yX1_writeWord ∈ bX1 := List.mem_append_left _ (List.mem_of_getElem? (i := 64) rfl)
theorem mX1_l_valueIs : Cond.methodLink RX1 74 yX1_valueIs ∈ bX1 := List.mem_append_left _ (List.mem_of_getElem? (i := 65) rfl)
theorem mX1_s_valueIs : Cond.instanceMethod yX1_valueIs ∈ bX1 := List.mem_append_left _ (List.mem_of_getElem? (i := 66) rfl)
theorem mX1_v_valueIs : Cond.selects RX1 yX1_valueIs yX1_valueIs ∈ bX1 := List.mem_append_left _ (List.mem_of_getElem? (i := 67) rfl)
theorem mX1_l_valueOf : Cond.methodLink RX1 82 yX1_valueOf ∈ bX1 := List.mem_append_left _ (List.mem_of_getElem? (i := 68) rfl)
theorem mX1_s_valueOf : Cond.instanceMethod yX1_valueOf ∈ bX1 := List.mem_append_left _ (List.mem_of_getElem? (i := 69) rfl)
theorem mX1_v_valueOf : Cond.selects RX1 yX1_valueOf yX1_valueOf ∈ bX1 := List.mem_append_left _ (List.mem_of_getElem? (i := 70) rfl)
theorem mX1_l_mayWrite : Cond.methodLink RX1 78 yX1_mayWrite ∈ bX1 := List.mem_append_left _ (List.mem_of_getElem? (i := 71) rfl)
theorem mX1_s_mayWrite : Cond.instanceMethod yX1_mayWrite ∈ bX1 := List.mem_append_left _ (List.mem_of_getElem? (i := 72) rfl)
theorem mX1_v_mayWrite : Cond.selects RX1 yX1_mayWrite yX1_mayWrite ∈ bX1 := List.mem_append_left _ (List.mem_of_getElem? (i := 73) rfl)
theorem mX1_l_writeTag : Cond.methodLink RX1 99 yX1_writeTag ∈ bX1 := List.mem_append_left _ (List.mem_of_getElem? (i := 74) rfl)
theorem mX1_s_writeTag : Cond.instanceMethod yX1_writeTag ∈ bX1 := List.mem_append_left _ (List.mem_of_getElem? (i := 75) rfl)
theorem mX1_v_writeTag : Cond.selects RX1 yX1_writeTag yX1_writeTag ∈ bX1 := List.mem_append_left _ (List.mem_of_getElem? (i := 76) rfl)
theorem mX1_l_moves : Cond.methodLink RX1 119 yX1_moves ∈ bX1 := List.mem_append_left _ (List.mem_of_getElem? (i := 77) rfl)
theorem mX1_s_moves : Cond.instanceMethod yX1_moves ∈ bX1 := List.mem_append_left _ (List.mem_of_getElem? (i := 78) rfl)
theorem mX1_v_moves : Cond.selects RX1 yX1_moves yX1_moves ∈ bX1 := List.mem_append_left _ (List.mem_of_getElem? (i := 79) rfl)
theorem mX1_l_isStaged : Cond.methodLink RX1 125 yX1_isStaged ∈ bX1 := List.mem_append_left _ (List.mem_of_getElem? (i := 80) rfl)
theorem mX1_s_isStaged : Cond.instanceMethod yX1_isStaged ∈ bX1 := List.mem_append_left _ (List.mem_of_getElem? (i := 81) rfl)
theorem mX1_v_isStaged : Cond.selects RX1 yX1_isStaged yX1_isStaged ∈ bX1 := List.mem_append_left _ (List.mem_of_getElem? (i := 82) rfl)
theorem mX1_l_emptyNote : Cond.methodLink RX1 128 yX1_emptyNote ∈ bX1 := List.mem_append_left _ (List.mem_of_getElem? (i := 83) rfl)
theorem mX1_s_emptyNote : Cond.instanceMethod yX1_emptyNote ∈ bX1 := List.mem_append_left _ (List.mem_of_getElem? (i := 84) rfl)
theorem mX1_v_emptyNote : Cond.selects RX1 yX1_emptyNote yX1_emptyNote ∈ bX1 := List.mem_append_left _ (List.mem_of_getElem? (i := 85) rfl)
theorem mX1_l_isEmptyNote : Cond.methodLink RX1 64 yX1_isEmptyNote ∈ bX1 := List.mem_append_left _ (List.mem_of_getElem? (i := 86) rfl)
theorem mX1_s_isEmptyNote : Cond.instanceMethod yX1_isEmptyNote ∈ bX1 := List.mem_append_left _ (List.mem_of_getElem? (i := 87) rfl)
theorem mX1_v_isEmptyNote : Cond.selects RX1 yX1_isEmptyNote yX1_isEmptyNote ∈ bX1 := List.mem_append_left _ (List.mem_of_getElem? (i := 88) rfl)
theorem mX1_l_line : Cond.methodLink RX1 60 yX1_line ∈ bX1 := List.mem_append_left _ (List.mem_of_getElem? (i := 89) rfl)
theorem mX1_s_line : Cond.instanceMethod yX1_line ∈ bX1 := List.mem_append_left _ (List.mem_of_getElem? (i := 90) rfl)
theorem mX1_v_line : Cond.selects RX1 yX1_line yX1_line ∈ bX1 := List.mem_append_left _ (List.mem_of_getElem? (i := 91) rfl)
theorem mX1_l_share : Cond.methodLink RX1 132 yX1_share ∈ bX1 := List.mem_append_left _ (List.mem_of_getElem? (i := 92) rfl)
theorem mX1_s_share : Cond.instanceMethod yX1_share ∈ bX1 := List.mem_append_left _ (List.mem_of_getElem? (i := 93) rfl)
theorem mX1_v_share : Cond.selects RX1 yX1_share yX1_share ∈ bX1 := List.mem_append_left _ (List.mem_of_getElem? (i := 94) rfl)
theorem mX1_l_writeLine : Cond.methodLink RX1 141 yX1_writeLine ∈ bX1 := List.mem_append_left _ (List.mem_of_getElem? (i := 95) rfl)
theorem mX1_s_writeLine : Cond.instanceMethod yX1_writeLine ∈ bX1 := List.mem_append_left _ (List.mem_of_getElem? (i := 96) rfl)
theorem mX1_v_writeLine : Cond.selects RX1 yX1_writeLine yX1_writeLine ∈ bX1 := List.mem_append_left _ (List.mem_of_getElem? (i := 97) rfl)
theorem mX1_l_finish : Cond.methodLink RX1 151 yX1_finish ∈ bX1 := List.mem_append_left _ (List.mem_of_getElem? (i := 98) rfl)
theorem mX1_s_finish : Cond.instanceMethod yX1_finish ∈ bX1 := List.mem_append_left _ (List.mem_of_getElem? (i := 99) rfl)
theorem mX1_v_finish : Cond.selects RX1 yX1_finish yX1_finish ∈ bX1 := List.mem_append_left _ (List.mem_of_getElem? (i := 100) rfl)
theorem mX1_l_countOf : Cond.methodLink RX1 155 yX1_countOf ∈ bX1 := List.mem_append_left _ (List.mem_of_getElem? (i := 101) rfl)
theorem mX1_s_countOf : Cond.static yX1_countOf ∈ bX1 := List.mem_append_left _ (List.mem_of_getElem? (i := 102) rfl)
theorem mX1_c_init : Cond.code yX1_init cX1_init 1 none ∈ bX1 := List.mem_append_left _ (List.mem_of_getElem? (i := 103) rfl)
theorem mX1_c_thrown : Cond.code yX1_thrown cX1_thrown 1 (some .int) ∈ bX1 := List.mem_append_left _ (List.mem_of_getElem? (i := 104) rfl)
theorem mX1_c_put : Cond.code yX1_put cX1_put 5 (some .int) ∈ bX1 := List.mem_append_left _ (List.mem_of_getElem? (i := 105) rfl)
theorem mX1_c_isKey : Cond.code yX1_isKey cX1_isKey 1 (some .boolean) ∈ bX1 := List.mem_append_left _ (List.mem_of_getElem? (i := 106) rfl)
theorem mX1_c_isValue : Cond.code yX1_isValue cX1_isValue 1 (some .boolean) ∈ bX1 := List.mem_append_left _ (List.mem_of_getElem? (i := 107) rfl)
theorem mX1_c_taker : Cond.code yX1_taker cX1_taker 5 (some .int) ∈ bX1 := List.mem_append_left _ (List.mem_of_getElem? (i := 108) rfl)
theorem mX1_c_present : Cond.code yX1_present cX1_present 3 (some .int) ∈ bX1 := List.mem_append_left _ (List.mem_of_getElem? (i := 109) rfl)
theorem mX1_c_tag : Cond.code yX1_tag cX1_tag 4 (some .int) ∈ bX1 := List.mem_append_left _ (List.mem_of_getElem? (i := 110) rfl)
theorem mX1_c_comesTo : Cond.code yX1_comesTo cX1_comesTo 4 (some .boolean) ∈ bX1 := List.mem_append_left _ (List.mem_of_getElem? (i := 111) rfl)
theorem mX1_c_pattern : Cond.code yX1_pattern cX1_pattern 5 (some .int) ∈ bX1 := List.mem_append_left _ (List.mem_of_getElem? (i := 112) rfl)
theorem mX1_c_better : Cond.code yX1_better cX1_better 6 (some .int) ∈ bX1 := List.mem_append_left _ (List.mem_of_getElem? (i := 113) rfl)
theorem mX1_c_meaning : Cond.code yX1_meaning cX1_meaning 1 (some .int) ∈ bX1 := List.mem_append_left _ (List.mem_of_getElem? (i := 114) rfl)
theorem mX1_c_size : Cond.code yX1_size cX1_size 1 (some .int) ∈ bX1 := List.mem_append_left _ (List.mem_of_getElem? (i := 115) rfl)
theorem mX1_c_single : Cond.code yX1_single cX1_single 1 (some .int) ∈ bX1 := List.mem_append_left _ (List.mem_of_getElem? (i := 116) rfl)
theorem mX1_c_freshFrom : Cond.code yX1_freshFrom cX1_freshFrom 3 (some .int) ∈ bX1 := List.mem_append_left _ (List.mem_of_getElem? (i := 117) rfl)
theorem mX1_c_isFresh : Cond.code yX1_isFresh cX1_isFresh 4 (some .boolean) ∈ bX1 := List.mem_append_left _ (List.mem_of_getElem? (i := 118) rfl)
theorem mX1_c_perform : Cond.code yX1_perform cX1_perform 4 none ∈ bX1 := List.mem_append_left _ (List.mem_of_getElem? (i := 119) rfl)
theorem mX1_c_writeWord : Cond.code yX1_writeWord cX1_writeWord 6 none ∈ bX1 := List.mem_append_left _ (List.mem_of_getElem? (i := 120) rfl)
theorem mX1_c_valueIs : Cond.code yX1_valueIs cX1_valueIs 3 (some .boolean) ∈ bX1 := List.mem_append_left _ (List.mem_of_getElem? (i := 121) rfl)
theorem mX1_c_valueOf : Cond.code yX1_valueOf cX1_valueOf 4 (some .int) ∈ bX1 := List.mem_append_left _ (List.mem_of_getElem? (i := 122) rfl)
theorem mX1_c_mayWrite : Cond.code yX1_mayWrite cX1_mayWrite 1 (some .boolean) ∈ bX1 := List.mem_append_left _ (List.mem_of_getElem? (i := 123) rfl)
theorem mX1_c_writeTag : Cond.code yX1_writeTag cX1_writeTag 4 none ∈ bX1 := List.mem_append_left _ (List.mem_of_getElem? (i := 124) rfl)
theorem mX1_c_get : Cond.code yX1_get cX1_get 3 (some .int) ∈ bX1 := List.mem_append_left _ (List.mem_of_getElem? (i := 125) rfl)
theorem mX1_c_wouldMove : Cond.code yX1_wouldMove cX1_wouldMove 3 (some .boolean) ∈ bX1 := List.mem_append_left _ (List.mem_of_getElem? (i := 126) rfl)
theorem mX1_c_moves : Cond.code yX1_moves cX1_moves 4 (some .boolean) ∈ bX1 := List.mem_append_left _ (List.mem_of_getElem? (i := 127) rfl)
theorem mX1_c_begin : Cond.code yX1_begin cX1_begin 1 none ∈ bX1 := List.mem_append_left _ (List.mem_of_getElem? (i := 128) rfl)
theorem mX1_c_stage : Cond.code yX1_stage cX1_stage 3 (some .int) ∈ bX1 := List.mem_append_left _ (List.mem_of_getElem? (i := 129) rfl)
theorem mX1_c_isStaged : Cond.code yX1_isStaged cX1_isStaged 4 (some .boolean) ∈ bX1 := List.mem_append_left _ (List.mem_of_getElem? (i := 130) rfl)
theorem mX1_c_abandon : Cond.code yX1_abandon cX1_abandon 1 (some .int) ∈ bX1 := List.mem_append_left _ (List.mem_of_getElem? (i := 131) rfl)
theorem mX1_c_commit : Cond.code yX1_commit cX1_commit 4 (some .int) ∈ bX1 := List.mem_append_left _ (List.mem_of_getElem? (i := 132) rfl)
theorem mX1_c_emptyNote : Cond.code yX1_emptyNote cX1_emptyNote 2 (some .int) ∈ bX1 := List.mem_append_left _ (List.mem_of_getElem? (i := 133) rfl)
theorem mX1_c_isEmptyNote : Cond.code yX1_isEmptyNote cX1_isEmptyNote 3 (some .boolean) ∈ bX1 := List.mem_append_left _ (List.mem_of_getElem? (i := 134) rfl)
theorem mX1_c_line : Cond.code yX1_line cX1_line 5 (some .long) ∈ bX1 := List.mem_append_left _ (List.mem_of_getElem? (i := 135) rfl)
theorem mX1_c_share : Cond.code yX1_share cX1_share 3 (some .boolean) ∈ bX1 := List.mem_append_left _ (List.mem_of_getElem? (i := 136) rfl)
theorem mX1_c_writeLine : Cond.code yX1_writeLine cX1_writeLine 5 none ∈ bX1 := List.mem_append_left _ (List.mem_of_getElem? (i := 137) rfl)
theorem mX1_c_failAfter : Cond.code yX1_failAfter cX1_failAfter 2 none ∈ bX1 := List.mem_append_left _ (List.mem_of_getElem? (i := 138) rfl)
theorem mX1_c_isOn : Cond.code yX1_isOn cX1_isOn 1 (some .boolean) ∈ bX1 := List.mem_append_left _ (List.mem_of_getElem? (i := 139) rfl)
theorem mX1_c_mount : Cond.code yX1_mount cX1_mount 3 (some .int) ∈ bX1 := List.mem_append_left _ (List.mem_of_getElem? (i := 140) rfl)
theorem mX1_c_finish : Cond.code yX1_finish cX1_finish 5 none ∈ bX1 := List.mem_append_left _ (List.mem_of_getElem? (i := 141) rfl)
theorem mX1_c_left : Cond.code yX1_left cX1_left 4 (some .int) ∈ bX1 := List.mem_append_left _ (List.mem_of_getElem? (i := 142) rfl)
theorem mX1_c_countOf : Cond.code yX1_countOf cX1_countOf 4 (some .int) ∈ bX1 := List.mem_append_left _ (List.mem_of_getElem? (i := 143) rfl)
theorem mX1_c_cell : Cond.code yX1_cell cX1_cell 7 (some .int) ∈ bX1 := List.mem_append_left _ (List.mem_of_getElem? (i := 144) rfl)
theorem mX1_c_words : Cond.code yX1_words cX1_words 4 (some .int) ∈ bX1 := List.mem_append_left _ (List.mem_of_getElem? (i := 145) rfl)
theorem mX1_c_history : Cond.code yX1_history cX1_history 5 (some .int) ∈ bX1 := List.mem_append_left _ (List.mem_of_getElem? (i := 146) rfl)
def wsX1_init : List Cond := .code yX1_init cX1_init 1 none :: bX1
def wsX1_thrown : List Cond := .code yX1_thrown cX1_thrown 1 (some .int) :: bX1
def wsX1_put : List Cond := .code yX1_put cX1_put 5 (some .int) :: bX1
def wsX1_isKey : List Cond := .code yX1_isKey cX1_isKey 1 (some .boolean) :: bX1
def wsX1_isValue : List Cond := .code yX1_isValue cX1_isValue 1 (some .boolean) :: bX1
def wsX1_taker : List Cond := .code yX1_taker cX1_taker 5 (some .int) :: bX1
def wsX1_present : List Cond := .code yX1_present cX1_present 3 (some .int) :: bX1
def wsX1_tag : List Cond := .code yX1_tag cX1_tag 4 (some .int) :: bX1
def wsX1_comesTo : List Cond := .code yX1_comesTo cX1_comesTo 4 (some .boolean) :: bX1
def wsX1_pattern : List Cond := .code yX1_pattern cX1_pattern 5 (some .int) :: bX1
def wsX1_better : List Cond := .code yX1_better cX1_better 6 (some .int) :: bX1
def wsX1_meaning : List Cond := .code yX1_meaning cX1_meaning 1 (some .int) :: bX1
def wsX1_size : List Cond := .code yX1_size cX1_size 1 (some .int) :: bX1
def wsX1_single : List Cond := .code yX1_single cX1_single 1 (some .int) :: bX1
def wsX1_freshFrom : List Cond := .code yX1_freshFrom cX1_freshFrom 3 (some .int) :: bX1
def wsX1_isFresh : List Cond := .code yX1_isFresh cX1_isFresh 4 (some .boolean) :: bX1
def wsX1_perform : List Cond := .code yX1_perform cX1_perform 4 none :: bX1
def wsX1_writeWord : List Cond := .code yX1_writeWord cX1_writeWord 6 none :: bX1
def wsX1_valueIs : List Cond := .code yX1_valueIs cX1_valueIs 3 (some .boolean) :: bX1
def wsX1_valueOf : List Cond := .code yX1_valueOf cX1_valueOf 4 (some .int) :: bX1
def wsX1_mayWrite : List Cond := .code yX1_mayWrite cX1_mayWrite 1 (some .boolean) :: bX1
def wsX1_writeTag : List Cond := .code yX1_writeTag cX1_writeTag 4 none :: bX1
def wsX1_get : List Cond := .code yX1_get cX1_get 3 (some .int) :: bX1
def wsX1_wouldMove : List Cond := .code yX1_wouldMove cX1_wouldMove 3 (some .boolean) :: bX1
def wsX1_moves : List Cond := .code yX1_moves cX1_moves 4 (some .boolean) :: bX1
def wsX1_begin : List Cond := .code yX1_begin cX1_begin 1 none :: bX1
def wsX1_stage : List Cond := .code yX1_stage cX1_stage 3 (some .int) :: bX1
def wsX1_isStaged : List Cond := .code yX1_isStaged cX1_isStaged 4 (some .boolean) :: bX1
def wsX1_abandon : List Cond := .code yX1_abandon cX1_abandon 1 (some .int) :: bX1
def wsX1_commit : List Cond := .code yX1_commit cX1_commit 4 (some .int) :: bX1
def wsX1_emptyNote : List Cond := .code yX1_emptyNote cX1_emptyNote 2 (some .int) :: bX1
def wsX1_isEmptyNote : List Cond := .code yX1_isEmptyNote cX1_isEmptyNote 3 (some .boolean) :: bX1
def wsX1_line : List Cond := .code yX1_line cX1_line 5 (some .long) :: bX1
def wsX1_share : List Cond := .code yX1_share cX1_share 3 (some .boolean) :: bX1
def wsX1_writeLine : List Cond := .code yX1_writeLine cX1_writeLine 5 none :: bX1
def wsX1_failAfter : List Cond := .code yX1_failAfter cX1_failAfter 2 none :: bX1
def wsX1_isOn : List Cond := .code yX1_isOn cX1_isOn 1 (some .boolean) :: bX1
def wsX1_mount : List Cond := .code yX1_mount cX1_mount 3 (some .int) :: bX1
def wsX1_finish : List Cond := .code yX1_finish cX1_finish 5 none :: bX1
def wsX1_left : List Cond := .code yX1_left cX1_left 4 (some .int) :: bX1
def wsX1_countOf : List Cond := .code yX1_countOf cX1_countOf 4 (some .int) :: bX1
def wsX1_cell : List Cond := .code yX1_cell cX1_cell 7 (some .int) :: bX1
def wsX1_words : List Cond := .code yX1_words cX1_words 4 (some .int) :: bX1
def wsX1_history : List Cond := .code yX1_history cX1_history 5 (some .int) :: bX1
theorem goX1_isKey : GoodIn bX1 (wsS RX1 102 yX1_isKey wsX1_isKey) := goS gdX1 mX1_l_isKey mX1_s_isKey mX1_init mX1_c_isKey
theorem goX1_isValue : GoodIn bX1 (wsS RX1 105 yX1_isValue wsX1_isValue) := goS gdX1 mX1_l_isValue mX1_s_isValue mX1_init mX1_c_isValue
theorem goX1_taker : GoodIn bX1 (wsV RX1 111 RX1 yX1_taker wsX1_taker) := goV gdX1 mX1_l_taker mX1_s_taker mX1_v_taker mX1_init mX1_c_taker
theorem goX1_present : GoodIn bX1 (wsV RX1 86 RX1 yX1_present wsX1_present) := goV gdX1 mX1_l_present mX1_s_present mX1_v_present mX1_init mX1_c_present
theorem goX1_tag : GoodIn bX1 (wsV RX1 53 RX1 yX1_tag wsX1_tag) := goV gdX1 mX1_l_tag mX1_s_tag mX1_v_tag mX1_init mX1_c_tag
theorem goX1_comesTo : GoodIn bX1 (wsV RX1 89 RX1 yX1_comesTo wsX1_comesTo) := goV gdX1 mX1_l_comesTo mX1_s_comesTo mX1_v_comesTo mX1_init mX1_c_comesTo
theorem goX1_pattern : GoodIn bX1 (wsV RX1 46 RX1 yX1_pattern wsX1_pattern) := goV gdX1 mX1_l_pattern mX1_s_pattern mX1_v_pattern mX1_init mX1_c_pattern
theorem goX1_better : GoodIn bX1 (wsV RX1 50 RX1 yX1_better wsX1_better) := goV gdX1 mX1_l_better mX1_s_better mX1_v_better mX1_init mX1_c_better
theorem goX1_meaning : GoodIn bX1 (wsS RX1 43 yX1_meaning wsX1_meaning) := goS gdX1 mX1_l_meaning mX1_s_meaning mX1_init mX1_c_meaning
theorem goX1_size : GoodIn bX1 (wsS RX1 36 yX1_size wsX1_size) := goS gdX1 mX1_l_size mX1_s_size mX1_init mX1_c_size
theorem goX1_single : GoodIn bX1 (wsS RX1 40 yX1_single wsX1_single) := goS gdX1 mX1_l_single mX1_s_single mX1_init mX1_c_single
theorem goX1_freshFrom : GoodIn bX1 (wsV RX1 92 RX1 yX1_freshFrom wsX1_freshFrom) := goV gdX1 mX1_l_freshFrom mX1_s_freshFrom mX1_v_freshFrom mX1_init mX1_c_freshFrom
theorem goX1_isFresh : GoodIn bX1 (wsV RX1 56 RX1 yX1_isFresh wsX1_isFresh) := goV gdX1 mX1_l_isFresh mX1_s_isFresh mX1_v_isFresh mX1_init mX1_c_isFresh
theorem goX1_perform : GoodIn bX1 (wsV RX1 115 RX1 yX1_perform wsX1_perform) := goV gdX1 mX1_l_perform mX1_s_perform mX1_v_perform mX1_init mX1_c_perform
theorem goX1_writeWord : GoodIn bX1 (wsV RX1 95 RX1 yX1_writeWord wsX1_writeWord) := goV gdX1 mX1_l_writeWord mX1_s_writeWord mX1_v_writeWord mX1_init mX1_c_writeWord
theorem goX1_valueIs : GoodIn bX1 (wsV RX1 74 RX1 yX1_valueIs wsX1_valueIs) := goV gdX1 mX1_l_valueIs mX1_s_valueIs mX1_v_valueIs mX1_init mX1_c_valueIs
theorem goX1_valueOf : GoodIn bX1 (wsV RX1 82 RX1 yX1_valueOf wsX1_valueOf) := goV gdX1 mX1_l_valueOf mX1_s_valueOf mX1_v_valueOf mX1_init mX1_c_valueOf
theorem goX1_mayWrite : GoodIn bX1 (wsV RX1 78 RX1 yX1_mayWrite wsX1_mayWrite) := goV gdX1 mX1_l_mayWrite mX1_s_mayWrite mX1_v_mayWrite mX1_init mX1_c_mayWrite
theorem goX1_writeTag : GoodIn bX1 (wsV RX1 99 RX1 yX1_writeTag wsX1_writeTag) := goV gdX1 mX1_l_writeTag mX1_s_writeTag mX1_v_writeTag mX1_init mX1_c_writeTag
theorem goX1_moves : GoodIn bX1 (wsV RX1 119 RX1 yX1_moves wsX1_moves) := goV gdX1 mX1_l_moves mX1_s_moves mX1_v_moves mX1_init mX1_c_moves
theorem goX1_isStaged : GoodIn bX1 (wsV RX1 125 RX1 yX1_isStaged wsX1_isStaged) := goV gdX1 mX1_l_isStaged mX1_s_isStaged mX1_v_isStaged mX1_init mX1_c_isStaged
theorem goX1_emptyNote : GoodIn bX1 (wsV RX1 128 RX1 yX1_emptyNote wsX1_emptyNote) := goV gdX1 mX1_l_emptyNote mX1_s_emptyNote mX1_v_emptyNote mX1_init mX1_c_emptyNote
theorem goX1_isEmptyNote : GoodIn bX1 (wsV RX1 64 RX1 yX1_isEmptyNote wsX1_isEmptyNote) := goV gdX1 mX1_l_isEmptyNote mX1_s_isEmptyNote mX1_v_isEmptyNote mX1_init mX1_c_isEmptyNote
theorem goX1_line : GoodIn bX1 (wsV RX1 60 RX1 yX1_line wsX1_line) := goV gdX1 mX1_l_line mX1_s_line mX1_v_line mX1_init mX1_c_line
theorem goX1_share : GoodIn bX1 (wsV RX1 132 RX1 yX1_share wsX1_share) := goV gdX1 mX1_l_share mX1_s_share mX1_v_share mX1_init mX1_c_share
theorem goX1_writeLine : GoodIn bX1 (wsV RX1 141 RX1 yX1_writeLine wsX1_writeLine) := goV gdX1 mX1_l_writeLine mX1_s_writeLine mX1_v_writeLine mX1_init mX1_c_writeLine
theorem goX1_finish : GoodIn bX1 (wsV RX1 151 RX1 yX1_finish wsX1_finish) := goV gdX1 mX1_l_finish mX1_s_finish mX1_v_finish mX1_init mX1_c_finish
theorem goX1_countOf : GoodIn bX1 (wsS RX1 155 yX1_countOf wsX1_countOf) := goS gdX1 mX1_l_countOf mX1_s_countOf mX1_init mX1_c_countOf
def wsJ6_bc : List Cond := .code yJ6_bitCount_0f7a4 cJ6_bitCount_0f7a4 1 (some .int) :: [.constant RJ6 265 (1431655765), .constant RJ6 266 (858993459), .constant RJ6 267 (252645135)]
abbrev vwCl : List vw_C := [(RX0, TX0, 12), (RX1, TX1, 12)]
