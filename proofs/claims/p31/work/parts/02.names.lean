def RX0 : String := "RangeGraves$Cleaner"
def TX0 : u_T := fun k => match k with
  | 0 => ("RangeGraves$Cleaner", "result", "LRangeGraves$Writes;", true)
  | 1 => ("RangeGraves$Cleaner", "left", "[LRangeGraves$Keys;", true)
  | 2 => ("RangeGraves$Cleaner", "newerWrites", "LRangeGraves$Keys;", true)
  | 3 => ("RangeGraves$Cleaner", "newerGraves", "LRangeGraves$Keys;", true)
  | _ => ("RangeGraves$Cleaner", "olderEntries", "LRangeGraves$Keys;", true)
def tyX0 : Nat → FieldType := fun k => match k with
  | 0 => .object "RangeGraves$Writes"
  | 1 => .array (.object "RangeGraves$Keys")
  | 2 => .object "RangeGraves$Keys"
  | 3 => .object "RangeGraves$Keys"
  | _ => .object "RangeGraves$Keys"
abbrev wsX00 : List Cond := u_ws RX0 TX0 5
theorem nmX0 : ∀ a, a < 5 → ∀ b, b < 5 → a ≠ b → (TX0 a).2.1 ≠ (TX0 b).2.1 := by decide +kernel
theorem tyX0_ok : ∀ k, k < 5 → parseFieldDescriptor (TX0 k).2.2.1 = some (tyX0 k) := by decide +kernel
abbrev cX0_init : ByteArray := prog_2_method_1_code
def yX0_init : MethodName := ⟨RX0, "<init>", "()V"⟩
abbrev cX0_clean : ByteArray := prog_2_method_2_code
def yX0_clean : MethodName := ⟨RX0, "clean", "(LRangeGraves$Store;II)I"⟩
abbrev cX0_dropHidden : ByteArray := prog_2_method_3_code
def yX0_dropHidden : MethodName := ⟨RX0, "dropHidden", "(LRangeGraves$Store;II)V"⟩
abbrev cX0_dropNeedless : ByteArray := prog_2_method_4_code
def yX0_dropNeedless : MethodName := ⟨RX0, "dropNeedless", "(LRangeGraves$Writes;II)V"⟩
abbrev cX0_addRows : ByteArray := prog_2_method_5_code
def yX0_addRows : MethodName := ⟨RX0, "addRows", "(LRangeGraves$Writes;I)V"⟩
def RX1 : String := "RangeGraves$History"
def TX1 : u_T := fun k => match k with
  | 0 => ("RangeGraves$History", "states", "[LRangeGraves$Store;", true)
  | 1 => ("RangeGraves$History", "oldest", "I", false)
  | _ => ("RangeGraves$History", "size", "I", false)
def tyX1 : Nat → FieldType := fun k => match k with
  | 0 => .array (.object "RangeGraves$Store")
  | 1 => .int
  | _ => .int
abbrev wsX10 : List Cond := u_ws RX1 TX1 3
theorem nmX1 : ∀ a, a < 3 → ∀ b, b < 3 → a ≠ b → (TX1 a).2.1 ≠ (TX1 b).2.1 := by decide +kernel
theorem tyX1_ok : ∀ k, k < 3 → parseFieldDescriptor (TX1 k).2.2.1 = some (tyX1 k) := by decide +kernel
abbrev cX1_init : ByteArray := prog_3_method_1_code
def yX1_init : MethodName := ⟨RX1, "<init>", "(LRangeGraves$Cleaner;)V"⟩
abbrev cX1_size : ByteArray := prog_3_method_2_code
def yX1_size : MethodName := ⟨RX1, "size", "()I"⟩
abbrev cX1_remember : ByteArray := prog_3_method_4_code
def yX1_remember : MethodName := ⟨RX1, "remember", "(LRangeGraves$Store;)V"⟩
abbrev cX1_takeBack : ByteArray := prog_3_method_5_code
def yX1_takeBack : MethodName := ⟨RX1, "takeBack", "(LRangeGraves$Store;)V"⟩
def RX2 : String := "RangeGraves$Keys"
def TX2 : u_T := fun k => match k with
  | 0 => ("RangeGraves$Keys", "low", "J", false)
  | _ => ("RangeGraves$Keys", "high", "J", false)
def tyX2 : Nat → FieldType := fun k => match k with
  | 0 => .long
  | _ => .long
abbrev wsX20 : List Cond := u_ws RX2 TX2 2
theorem nmX2 : ∀ a, a < 2 → ∀ b, b < 2 → a ≠ b → (TX2 a).2.1 ≠ (TX2 b).2.1 := by decide +kernel
theorem tyX2_ok : ∀ k, k < 2 → parseFieldDescriptor (TX2 k).2.2.1 = some (tyX2 k) := by decide +kernel
abbrev cX2_init : ByteArray := prog_4_method_1_code
def yX2_init : MethodName := ⟨RX2, "<init>", "()V"⟩
abbrev cX2_empty : ByteArray := prog_4_method_2_code
def yX2_empty : MethodName := ⟨RX2, "empty", "()V"⟩
abbrev cX2_addRow : ByteArray := prog_4_method_3_code
def yX2_addRow : MethodName := ⟨RX2, "addRow", "(II)V"⟩
abbrev cX2_addAll : ByteArray := prog_4_method_4_code
def yX2_addAll : MethodName := ⟨RX2, "addAll", "(LRangeGraves$Keys;)V"⟩
abbrev cX2_removeAll : ByteArray := prog_4_method_5_code
def yX2_removeAll : MethodName := ⟨RX2, "removeAll", "(LRangeGraves$Keys;)V"⟩
abbrev cX2_keepOnly : ByteArray := prog_4_method_6_code
def yX2_keepOnly : MethodName := ⟨RX2, "keepOnly", "(LRangeGraves$Keys;)V"⟩
abbrev cX2_has : ByteArray := prog_4_method_7_code
def yX2_has : MethodName := ⟨RX2, "has", "(I)Z"⟩
abbrev cX2_size : ByteArray := prog_4_method_8_code
def yX2_size : MethodName := ⟨RX2, "size", "()I"⟩
def RX3 : String := "RangeGraves$Store"
def TX3 : u_T := fun k => match k with
  | 0 => ("RangeGraves$Store", "cleaner", "LRangeGraves$Cleaner;", true)
  | 1 => ("RangeGraves$Store", "writes", "LRangeGraves$Writes;", true)
  | 2 => ("RangeGraves$Store", "ends", "[I", true)
  | 3 => ("RangeGraves$Store", "eyeNumbers", "[I", true)
  | 4 => ("RangeGraves$Store", "runs", "I", false)
  | 5 => ("RangeGraves$Store", "eyes", "I", false)
  | 6 => ("RangeGraves$Store", "latest", "I", false)
  | _ => ("RangeGraves$Store", "fewer", "I", false)
def tyX3 : Nat → FieldType := fun k => match k with
  | 0 => .object "RangeGraves$Cleaner"
  | 1 => .object "RangeGraves$Writes"
  | 2 => .array .int
  | 3 => .array .int
  | 4 => .int
  | 5 => .int
  | 6 => .int
  | _ => .int
abbrev wsX30 : List Cond := u_ws RX3 TX3 8
theorem nmX3 : ∀ a, a < 8 → ∀ b, b < 8 → a ≠ b → (TX3 a).2.1 ≠ (TX3 b).2.1 := by decide +kernel
theorem tyX3_ok : ∀ k, k < 8 → parseFieldDescriptor (TX3 k).2.2.1 = some (tyX3 k) := by decide +kernel
abbrev cX3_init : ByteArray := prog_5_method_1_code
def yX3_init : MethodName := ⟨RX3, "<init>", "(LRangeGraves$Cleaner;I)V"⟩
abbrev cX3_become : ByteArray := prog_5_method_3_code
def yX3_become : MethodName := ⟨RX3, "become", "(LRangeGraves$Store;)V"⟩
abbrev cX3_size : ByteArray := prog_5_method_4_code
def yX3_size : MethodName := ⟨RX3, "size", "()I"⟩
abbrev cX3_isFull : ByteArray := prog_5_method_5_code
def yX3_isFull : MethodName := ⟨RX3, "isFull", "()Z"⟩
abbrev cX3_runs : ByteArray := prog_5_method_6_code
def yX3_runs : MethodName := ⟨RX3, "runs", "()I"⟩
abbrev cX3_eyes : ByteArray := prog_5_method_7_code
def yX3_eyes : MethodName := ⟨RX3, "eyes", "()I"⟩
abbrev cX3_latest : ByteArray := prog_5_method_8_code
def yX3_latest : MethodName := ⟨RX3, "latest", "()I"⟩
abbrev cX3_fewer : ByteArray := prog_5_method_9_code
def yX3_fewer : MethodName := ⟨RX3, "fewer", "()I"⟩
abbrev cX3_isRun : ByteArray := prog_5_method_10_code
def yX3_isRun : MethodName := ⟨RX3, "isRun", "(I)Z"⟩
abbrev cX3_isPlace : ByteArray := prog_5_method_11_code
def yX3_isPlace : MethodName := ⟨RX3, "isPlace", "(I)Z"⟩
abbrev cX3_startOf : ByteArray := prog_5_method_12_code
def yX3_startOf : MethodName := ⟨RX3, "startOf", "(I)I"⟩
abbrev cX3_endOf : ByteArray := prog_5_method_13_code
def yX3_endOf : MethodName := ⟨RX3, "endOf", "(I)I"⟩
abbrev cX3_sizeOf : ByteArray := prog_5_method_14_code
def yX3_sizeOf : MethodName := ⟨RX3, "sizeOf", "(I)I"⟩
abbrev cX3_entriesIn : ByteArray := prog_5_method_15_code
def yX3_entriesIn : MethodName := ⟨RX3, "entriesIn", "(II)I"⟩
abbrev cX3_keysIn : ByteArray := prog_5_method_16_code
def yX3_keysIn : MethodName := ⟨RX3, "keysIn", "(I)I"⟩
abbrev cX3_isEye : ByteArray := prog_5_method_17_code
def yX3_isEye : MethodName := ⟨RX3, "isEye", "(I)Z"⟩
abbrev cX3_isView : ByteArray := prog_5_method_18_code
def yX3_isView : MethodName := ⟨RX3, "isView", "(I)Z"⟩
abbrev cX3_limitOf : ByteArray := prog_5_method_19_code
def yX3_limitOf : MethodName := ⟨RX3, "limitOf", "(I)I"⟩
abbrev cX3_eyesBefore : ByteArray := prog_5_method_20_code
def yX3_eyesBefore : MethodName := ⟨RX3, "eyesBefore", "(I)I"⟩
abbrev cX3_newestFor : ByteArray := prog_5_method_21_code
def yX3_newestFor : MethodName := ⟨RX3, "newestFor", "(II)I"⟩
abbrev cX3_valueFor : ByteArray := prog_5_method_22_code
def yX3_valueFor : MethodName := ⟨RX3, "valueFor", "(II)I"⟩
abbrev cX3_isSeen : ByteArray := prog_5_method_23_code
def yX3_isSeen : MethodName := ⟨RX3, "isSeen", "(I)Z"⟩
abbrev cX3_canOpen : ByteArray := prog_5_method_24_code
def yX3_canOpen : MethodName := ⟨RX3, "canOpen", "()Z"⟩
abbrev cX3_canFlush : ByteArray := prog_5_method_25_code
def yX3_canFlush : MethodName := ⟨RX3, "canFlush", "()Z"⟩
abbrev cX3_canMerge : ByteArray := prog_5_method_26_code
def yX3_canMerge : MethodName := ⟨RX3, "canMerge", "(I)Z"⟩
abbrev cX3_savedBy : ByteArray := prog_5_method_27_code
def yX3_savedBy : MethodName := ⟨RX3, "savedBy", "(I)I"⟩
abbrev cX3_addWrite : ByteArray := prog_5_method_28_code
def yX3_addWrite : MethodName := ⟨RX3, "addWrite", "(III)V"⟩
abbrev cX3_addEye : ByteArray := prog_5_method_29_code
def yX3_addEye : MethodName := ⟨RX3, "addEye", "()V"⟩
abbrev cX3_dropEye : ByteArray := prog_5_method_30_code
def yX3_dropEye : MethodName := ⟨RX3, "dropEye", "(I)V"⟩
abbrev cX3_dropAllEyes : ByteArray := prog_5_method_31_code
def yX3_dropAllEyes : MethodName := ⟨RX3, "dropAllEyes", "()V"⟩
abbrev cX3_flushMemory : ByteArray := prog_5_method_32_code
def yX3_flushMemory : MethodName := ⟨RX3, "flushMemory", "()I"⟩
abbrev cX3_mergeRuns : ByteArray := prog_5_method_33_code
def yX3_mergeRuns : MethodName := ⟨RX3, "mergeRuns", "(I)I"⟩
def RX4 : String := "RangeGraves$Text"
def TX4 : u_T := fun k => match k with
  | 0 => ("RangeGraves$Text", "signs", "[I", true)
  | _ => ("RangeGraves$Text", "length", "I", false)
def tyX4 : Nat → FieldType := fun k => match k with
  | 0 => .array .int
  | _ => .int
abbrev wsX40 : List Cond := u_ws RX4 TX4 2
theorem nmX4 : ∀ a, a < 2 → ∀ b, b < 2 → a ≠ b → (TX4 a).2.1 ≠ (TX4 b).2.1 := by decide +kernel
theorem tyX4_ok : ∀ k, k < 2 → parseFieldDescriptor (TX4 k).2.2.1 = some (tyX4 k) := by decide +kernel
abbrev cX4_init : ByteArray := prog_6_method_1_code
def yX4_init : MethodName := ⟨RX4, "<init>", "()V"⟩
def RX5 : String := "RangeGraves$View"
def TX5 : u_T := fun k => match k with
  | _ => ("RangeGraves$View", "seen", "[I", true)
def tyX5 : Nat → FieldType := fun k => match k with
  | _ => .array .int
abbrev wsX50 : List Cond := u_ws RX5 TX5 1
theorem nmX5 : ∀ a, a < 1 → ∀ b, b < 1 → a ≠ b → (TX5 a).2.1 ≠ (TX5 b).2.1 := by decide +kernel
theorem tyX5_ok : ∀ k, k < 1 → parseFieldDescriptor (TX5 k).2.2.1 = some (tyX5 k) := by decide +kernel
abbrev cX5_init : ByteArray := prog_7_method_1_code
def yX5_init : MethodName := ⟨RX5, "<init>", "()V"⟩
abbrev cX5_look : ByteArray := prog_7_method_2_code
def yX5_look : MethodName := ⟨RX5, "look", "(LRangeGraves$Store;I)V"⟩
abbrev cX5_sum : ByteArray := prog_7_method_3_code
def yX5_sum : MethodName := ⟨RX5, "sum", "()I"⟩
abbrev cX5_seenIn : ByteArray := prog_7_method_4_code
def yX5_seenIn : MethodName := ⟨RX5, "seenIn", "(II)I"⟩
abbrev cX5_firstSeen : ByteArray := prog_7_method_5_code
def yX5_firstSeen : MethodName := ⟨RX5, "firstSeen", "(I)I"⟩
def RX6 : String := "RangeGraves$Writes"
def TX6 : u_T := fun k => match k with
  | 0 => ("RangeGraves$Writes", "numbers", "[I", true)
  | 1 => ("RangeGraves$Writes", "firsts", "[I", true)
  | 2 => ("RangeGraves$Writes", "lasts", "[I", true)
  | 3 => ("RangeGraves$Writes", "values", "[I", true)
  | _ => ("RangeGraves$Writes", "size", "I", false)
def tyX6 : Nat → FieldType := fun k => match k with
  | 0 => .array .int
  | 1 => .array .int
  | 2 => .array .int
  | 3 => .array .int
  | _ => .int
abbrev wsX60 : List Cond := u_ws RX6 TX6 5
theorem nmX6 : ∀ a, a < 5 → ∀ b, b < 5 → a ≠ b → (TX6 a).2.1 ≠ (TX6 b).2.1 := by decide +kernel
theorem tyX6_ok : ∀ k, k < 5 → parseFieldDescriptor (TX6 k).2.2.1 = some (tyX6 k) := by decide +kernel
abbrev cX6_init : ByteArray := prog_8_method_1_code
def yX6_init : MethodName := ⟨RX6, "<init>", "(I)V"⟩
abbrev cX6_size : ByteArray := prog_8_method_2_code
def yX6_size : MethodName := ⟨RX6, "size", "()I"⟩
abbrev cX6_empty : ByteArray := prog_8_method_3_code
def yX6_empty : MethodName := ⟨RX6, "empty", "()V"⟩
abbrev cX6_add : ByteArray := prog_8_method_4_code
def yX6_add : MethodName := ⟨RX6, "add", "(IIII)V"⟩
abbrev cX6_numberAt : ByteArray := prog_8_method_5_code
def yX6_numberAt : MethodName := ⟨RX6, "numberAt", "(I)I"⟩
abbrev cX6_firstAt : ByteArray := prog_8_method_6_code
def yX6_firstAt : MethodName := ⟨RX6, "firstAt", "(I)I"⟩
abbrev cX6_lastAt : ByteArray := prog_8_method_7_code
def yX6_lastAt : MethodName := ⟨RX6, "lastAt", "(I)I"⟩
abbrev cX6_valueAt : ByteArray := prog_8_method_8_code
def yX6_valueAt : MethodName := ⟨RX6, "valueAt", "(I)I"⟩
abbrev cX6_isEntry : ByteArray := prog_8_method_9_code
def yX6_isEntry : MethodName := ⟨RX6, "isEntry", "(I)Z"⟩
abbrev cX6_concerns : ByteArray := prog_8_method_10_code
def yX6_concerns : MethodName := ⟨RX6, "concerns", "(II)Z"⟩
abbrev cX6_replace : ByteArray := prog_8_method_11_code
def yX6_replace : MethodName := ⟨RX6, "replace", "(IILRangeGraves$Writes;)V"⟩
def RX7 : String := "RangeGraves"
def TX7 : u_T := fun k => match k with
  | 0 => ("RangeGraves", "text", "LRangeGraves$Text;", true)
  | 1 => ("RangeGraves", "store", "LRangeGraves$Store;", true)
  | 2 => ("RangeGraves", "trial", "LRangeGraves$Store;", true)
  | 3 => ("RangeGraves", "history", "LRangeGraves$History;", true)
  | 4 => ("RangeGraves", "slots", "[LRangeGraves$Store;", true)
  | 5 => ("RangeGraves", "filled", "[Z", true)
  | _ => ("RangeGraves", "view", "LRangeGraves$View;", true)
def tyX7 : Nat → FieldType := fun k => match k with
  | 0 => .object "RangeGraves$Text"
  | 1 => .object "RangeGraves$Store"
  | 2 => .object "RangeGraves$Store"
  | 3 => .object "RangeGraves$History"
  | 4 => .array (.object "RangeGraves$Store")
  | 5 => .array .boolean
  | _ => .object "RangeGraves$View"
abbrev wsX70 : List Cond := u_ws RX7 TX7 7
theorem nmX7 : ∀ a, a < 7 → ∀ b, b < 7 → a ≠ b → (TX7 a).2.1 ≠ (TX7 b).2.1 := by decide +kernel
theorem tyX7_ok : ∀ k, k < 7 → parseFieldDescriptor (TX7 k).2.2.1 = some (tyX7 k) := by decide +kernel
abbrev cX7_init : ByteArray := prog_1_method_1_code
def yX7_init : MethodName := ⟨RX7, "<init>", "()V"⟩
abbrev cX7_about : ByteArray := prog_1_method_6_code
def yX7_about : MethodName := ⟨RX7, "about", "(I)I"⟩
abbrev cX7_get : ByteArray := prog_1_method_7_code
def yX7_get : MethodName := ⟨RX7, "get", "(II)I"⟩
abbrev cX7_run : ByteArray := prog_1_method_8_code
def yX7_run : MethodName := ⟨RX7, "run", "(II)I"⟩
abbrev cX7_write : ByteArray := prog_1_method_9_code
def yX7_write : MethodName := ⟨RX7, "write", "(III)I"⟩
abbrev cX7_put : ByteArray := prog_1_method_11_code
def yX7_put : MethodName := ⟨RX7, "put", "(II)I"⟩
abbrev cX7_bury : ByteArray := prog_1_method_12_code
def yX7_bury : MethodName := ⟨RX7, "bury", "(II)I"⟩
abbrev cX7_open : ByteArray := prog_1_method_13_code
def yX7_open : MethodName := ⟨RX7, "open", "()I"⟩
abbrev cX7_close : ByteArray := prog_1_method_14_code
def yX7_close : MethodName := ⟨RX7, "close", "(I)I"⟩
abbrev cX7_flush : ByteArray := prog_1_method_15_code
def yX7_flush : MethodName := ⟨RX7, "flush", "()I"⟩
abbrev cX7_merge : ByteArray := prog_1_method_16_code
def yX7_merge : MethodName := ⟨RX7, "merge", "(I)I"⟩
abbrev cX7_undo : ByteArray := prog_1_method_17_code
def yX7_undo : MethodName := ⟨RX7, "undo", "()I"⟩
abbrev cX7_looks : ByteArray := prog_1_method_18_code
def yX7_looks : MethodName := ⟨RX7, "looks", "(I)I"⟩
abbrev cX7_next : ByteArray := prog_1_method_19_code
def yX7_next : MethodName := ⟨RX7, "next", "(II)I"⟩
abbrev cX7_count : ByteArray := prog_1_method_20_code
def yX7_count : MethodName := ⟨RX7, "count", "(III)I"⟩
abbrev cX7_hidden : ByteArray := prog_1_method_21_code
def yX7_hidden : MethodName := ⟨RX7, "hidden", "()I"⟩
abbrev cX7_saves : ByteArray := prog_1_method_23_code
def yX7_saves : MethodName := ⟨RX7, "saves", "(I)I"⟩
abbrev cX7_best : ByteArray := prog_1_method_24_code
def yX7_best : MethodName := ⟨RX7, "best", "()I"⟩
abbrev cX7_fewest : ByteArray := prog_1_method_25_code
def yX7_fewest : MethodName := ⟨RX7, "fewest", "()I"⟩
abbrev cX7_isKey : ByteArray := prog_1_method_30_code
def yX7_isKey : MethodName := ⟨RX7, "isKey", "(I)Z"⟩
abbrev cX7_isValue : ByteArray := prog_1_method_31_code
def yX7_isValue : MethodName := ⟨RX7, "isValue", "(I)Z"⟩
abbrev cX7_seenNow : ByteArray := prog_1_method_32_code
def yX7_seenNow : MethodName := ⟨RX7, "seenNow", "(LRangeGraves$Store;)I"⟩
def RX8 : String := "RangeGravesModel"
def TX8 : u_T := fun k => match k with
  | _ => ("", "", "", false)
def tyX8 : Nat → FieldType := fun k => match k with
  | _ => .int
abbrev wsX80 : List Cond := u_ws RX8 TX8 0
theorem nmX8 : ∀ a, a < 0 → ∀ b, b < 0 → a ≠ b → (TX8 a).2.1 ≠ (TX8 b).2.1 := by decide +kernel
theorem tyX8_ok : ∀ k, k < 0 → parseFieldDescriptor (TX8 k).2.2.1 = some (tyX8 k) := by decide +kernel
def RJx145de : String := "java/io/Serializable"
def TJx145de : u_T := fun k => match k with
  | _ => ("", "", "", false)
def tyJx145de : Nat → FieldType := fun k => match k with
  | _ => .int
abbrev wsJx145de0 : List Cond := u_ws RJx145de TJx145de 0
theorem nmJx145de : ∀ a, a < 0 → ∀ b, b < 0 → a ≠ b → (TJx145de a).2.1 ≠ (TJx145de b).2.1 := by decide +kernel
theorem tyJx145de_ok : ∀ k, k < 0 → parseFieldDescriptor (TJx145de k).2.2.1 = some (tyJx145de k) := by decide +kernel
def RJ13 : String := "java/lang/Long"
def TJ13 : u_T := fun k => match k with
  | _ => ("", "", "", false)
def tyJ13 : Nat → FieldType := fun k => match k with
  | _ => .int
abbrev wsJ130 : List Cond := u_ws RJ13 TJ13 0
theorem nmJ13 : ∀ a, a < 0 → ∀ b, b < 0 → a ≠ b → (TJ13 a).2.1 ≠ (TJ13 b).2.1 := by decide +kernel
theorem tyJ13_ok : ∀ k, k < 0 → parseFieldDescriptor (TJ13 k).2.2.1 = some (tyJ13 k) := by decide +kernel
abbrev cJ13_bitCount_95d88 : ByteArray := prog_15_method_50_code
def yJ13_bitCount_95d88 : MethodName := ⟨RJ13, "bitCount", "(J)I"⟩
def RJ9 : String := "java/lang/Math"
def TJ9 : u_T := fun k => match k with
  | _ => ("", "", "", false)
def tyJ9 : Nat → FieldType := fun k => match k with
  | _ => .int
abbrev wsJ90 : List Cond := u_ws RJ9 TJ9 0
theorem nmJ9 : ∀ a, a < 0 → ∀ b, b < 0 → a ≠ b → (TJ9 a).2.1 ≠ (TJ9 b).2.1 := by decide +kernel
theorem tyJ9_ok : ∀ k, k < 0 → parseFieldDescriptor (TJ9 k).2.2.1 = some (tyJ9 k) := by decide +kernel
abbrev cJ9_max_7cf53 : ByteArray := prog_16_method_65_code
def yJ9_max_7cf53 : MethodName := ⟨RJ9, "max", "(II)I"⟩
abbrev cJ9_min_7cf53 : ByteArray := prog_16_method_69_code
def yJ9_min_7cf53 : MethodName := ⟨RJ9, "min", "(II)I"⟩
def RJ0 : String := "java/lang/String"
def TJ0 : u_T := fun k => match k with
  | _ => ("", "", "", false)
def tyJ0 : Nat → FieldType := fun k => match k with
  | _ => .int
abbrev wsJ00 : List Cond := u_ws RJ0 TJ0 0
theorem nmJ0 : ∀ a, a < 0 → ∀ b, b < 0 → a ≠ b → (TJ0 a).2.1 ≠ (TJ0 b).2.1 := by decide +kernel
theorem tyJ0_ok : ∀ k, k < 0 → parseFieldDescriptor (TJ0 k).2.2.1 = some (tyJ0 k) := by decide +kernel
def RJ10 : String := "java/lang/System"
def TJ10 : u_T := fun k => match k with
  | _ => ("", "", "", false)
def tyJ10 : Nat → FieldType := fun k => match k with
  | _ => .int
abbrev wsJ100 : List Cond := u_ws RJ10 TJ10 0
theorem nmJ10 : ∀ a, a < 0 → ∀ b, b < 0 → a ≠ b → (TJ10 a).2.1 ≠ (TJ10 b).2.1 := by decide +kernel
theorem tyJ10_ok : ∀ k, k < 0 → parseFieldDescriptor (TJ10 k).2.2.1 = some (tyJ10 k) := by decide +kernel
def RJ7 : String := "java/util/Arrays"
def TJ7 : u_T := fun k => match k with
  | _ => ("", "", "", false)
def tyJ7 : Nat → FieldType := fun k => match k with
  | _ => .int
abbrev wsJ70 : List Cond := u_ws RJ7 TJ7 0
theorem nmJ7 : ∀ a, a < 0 → ∀ b, b < 0 → a ≠ b → (TJ7 a).2.1 ≠ (TJ7 b).2.1 := by decide +kernel
theorem tyJ7_ok : ∀ k, k < 0 → parseFieldDescriptor (TJ7 k).2.2.1 = some (tyJ7 k) := by decide +kernel
abbrev cJ7_fill_53178 : ByteArray := prog_21_method_103_code
def yJ7_fill_53178 : MethodName := ⟨RJ7, "fill", "([II)V"⟩
def RL : String := "RangeGravesLaw"
abbrev cL_cell : ByteArray := method_2_code
def yL_cell : MethodName := ⟨RL, "cell", "([II)I"⟩
abbrev cL_low : ByteArray := method_3_code
def yL_low : MethodName := ⟨RL, "low", "(II)I"⟩
abbrev cL_does : ByteArray := method_4_code
def yL_does : MethodName := ⟨RL, "does", "(LRangeGraves;I)I"⟩
abbrev cL_tale : ByteArray := method_5_code
def yL_tale : MethodName := ⟨RL, "tale", "(LRangeGraves;I)J"⟩
abbrev cL_areWritesSo : ByteArray := method_6_code
def yL_areWritesSo : MethodName := ⟨RL, "areWritesSo", "(LRangeGraves;)Z"⟩
abbrev cL_areKeysSo : ByteArray := method_7_code
def yL_areKeysSo : MethodName := ⟨RL, "areKeysSo", "(LRangeGraves;I)Z"⟩
abbrev cL_isMergeSo : ByteArray := method_8_code
def yL_isMergeSo : MethodName := ⟨RL, "isMergeSo", "(LRangeGraves;I)Z"⟩
abbrev cL_law : ByteArray := code
def yL_law : MethodName := ⟨RL, "law", "([I)Z"⟩
abbrev vwCl : List vw_C := [(RX0, TX0, 5), (RX1, TX1, 3), (RX2, TX2, 2), (RX3, TX3, 8), (RX4, TX4, 2), (RX5, TX5, 1), (RX6, TX6, 5), (RX7, TX7, 7)]
