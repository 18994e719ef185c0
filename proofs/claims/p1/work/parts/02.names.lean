def RX0 : String := "ClusterShelf$Book"
def TX0 : u_T := fun k => match k with
  | 0 => ("ClusterShelf$Book", "rows", "[I", true)
  | _ => ("ClusterShelf$Book", "ended", "I", false)
def tyX0 : Nat → FieldType := fun k => match k with
  | 0 => .array .int
  | _ => .int
abbrev wsX00 : List Cond := u_ws RX0 TX0 2
theorem nmX0 : ∀ a, a < 2 → ∀ b, b < 2 → a ≠ b → (TX0 a).2.1 ≠ (TX0 b).2.1 := by decide +kernel
theorem tyX0_ok : ∀ k, k < 2 → parseFieldDescriptor (TX0 k).2.2.1 = some (tyX0 k) := by decide +kernel
abbrev cX0_init : ByteArray := prog_2_method_1_code
def yX0_init : MethodName := ⟨RX0, "<init>", "()V"⟩
abbrev cX0_kept : ByteArray := prog_2_method_2_code
def yX0_kept : MethodName := ⟨RX0, "kept", "()I"⟩
abbrev cX0_enter : ByteArray := prog_2_method_3_code
def yX0_enter : MethodName := ⟨RX0, "enter", "(LClusterShelf$Node;II)V"⟩
abbrev cX0_makeSafe : ByteArray := prog_2_method_4_code
def yX0_makeSafe : MethodName := ⟨RX0, "makeSafe", "(II)V"⟩
abbrev cX0_lose : ByteArray := prog_2_method_5_code
def yX0_lose : MethodName := ⟨RX0, "lose", "(I)V"⟩
abbrev cX0_turn : ByteArray := prog_2_method_6_code
def yX0_turn : MethodName := ⟨RX0, "turn", "(III)V"⟩
def RX1 : String := "ClusterShelf$Cache"
def TX1 : u_T := fun k => match k with
  | 0 => ("ClusterShelf$Cache", "words", "[I", true)
  | 1 => ("ClusterShelf$Cache", "has", "[Z", true)
  | _ => ("ClusterShelf$Cache", "count", "I", false)
def tyX1 : Nat → FieldType := fun k => match k with
  | 0 => .array .int
  | 1 => .array .boolean
  | _ => .int
abbrev wsX10 : List Cond := u_ws RX1 TX1 3
theorem nmX1 : ∀ a, a < 3 → ∀ b, b < 3 → a ≠ b → (TX1 a).2.1 ≠ (TX1 b).2.1 := by decide +kernel
theorem tyX1_ok : ∀ k, k < 3 → parseFieldDescriptor (TX1 k).2.2.1 = some (tyX1 k) := by decide +kernel
abbrev cX1_init : ByteArray := prog_3_method_1_code
def yX1_init : MethodName := ⟨RX1, "<init>", "()V"⟩
abbrev cX1_admit : ByteArray := prog_3_method_2_code
def yX1_admit : MethodName := ⟨RX1, "\x61dmit", "(I)V"⟩
abbrev cX1_drop : ByteArray := prog_3_method_3_code
def yX1_drop : MethodName := ⟨RX1, "drop", "(I)V"⟩
abbrev cX1_dropResource : ByteArray := prog_3_method_4_code
def yX1_dropResource : MethodName := ⟨RX1, "dropResource", "(I)V"⟩
abbrev cX1_dropAll : ByteArray := prog_3_method_5_code
def yX1_dropAll : MethodName := ⟨RX1, "dropAll", "(II)V"⟩
abbrev cX1_wipe : ByteArray := prog_3_method_6_code
def yX1_wipe : MethodName := ⟨RX1, "wipe", "()V"⟩
def RX2 : String := "ClusterShelf$Checker"
def TX2 : u_T := fun k => match k with
  | 0 => ("ClusterShelf$Checker", "disk", "[I", true)
  | 1 => ("ClusterShelf$Checker", "source", "[I", true)
  | 2 => ("ClusterShelf$Checker", "named", "[I", true)
  | 3 => ("ClusterShelf$Checker", "reached", "[Z", true)
  | 4 => ("ClusterShelf$Checker", "queue", "[I", true)
  | 5 => ("ClusterShelf$Checker", "queued", "I", false)
  | 6 => ("ClusterShelf$Checker", "bits", "[I", true)
  | _ => ("ClusterShelf$Checker", "dangling", "Z", false)
def tyX2 : Nat → FieldType := fun k => match k with
  | 0 => .array .int
  | 1 => .array .int
  | 2 => .array .int
  | 3 => .array .boolean
  | 4 => .array .int
  | 5 => .int
  | 6 => .array .int
  | _ => .boolean
abbrev wsX20 : List Cond := u_ws RX2 TX2 8
theorem nmX2 : ∀ a, a < 8 → ∀ b, b < 8 → a ≠ b → (TX2 a).2.1 ≠ (TX2 b).2.1 := by decide +kernel
theorem tyX2_ok : ∀ k, k < 8 → parseFieldDescriptor (TX2 k).2.2.1 = some (tyX2 k) := by decide +kernel
abbrev cX2_init : ByteArray := prog_4_method_1_code
def yX2_init : MethodName := ⟨RX2, "<init>", "([I)V"⟩
abbrev cX2_look : ByteArray := prog_4_method_2_code
def yX2_look : MethodName := ⟨RX2, "look", "([LClusterShelf$Node;)I"⟩
abbrev cX2_recoverAll : ByteArray := prog_4_method_3_code
def yX2_recoverAll : MethodName := ⟨RX2, "recoverAll", "([LClusterShelf$Node;)V"⟩
abbrev cX2_at : ByteArray := prog_4_method_4_code
def yX2_at : MethodName := ⟨RX2, "at", "(II)I"⟩
abbrev cX2_kindOf : ByteArray := prog_4_method_5_code
def yX2_kindOf : MethodName := ⟨RX2, "kindOf", "(I)I"⟩
abbrev cX2_walk : ByteArray := prog_4_method_6_code
def yX2_walk : MethodName := ⟨RX2, "walk", "()V"⟩
abbrev cX2_reach : ByteArray := prog_4_method_7_code
def yX2_reach : MethodName := ⟨RX2, "reach", "(I)V"⟩
abbrev cX2_followEntries : ByteArray := prog_4_method_8_code
def yX2_followEntries : MethodName := ⟨RX2, "followEntries", "(I)V"⟩
abbrev cX2_isNamedTwice : ByteArray := prog_4_method_9_code
def yX2_isNamedTwice : MethodName := ⟨RX2, "isNamedTwice", "()Z"⟩
abbrev cX2_isLeftAlone : ByteArray := prog_4_method_10_code
def yX2_isLeftAlone : MethodName := ⟨RX2, "isLeftAlone", "()Z"⟩
abbrev cX2_hasWrongLinks : ByteArray := prog_4_method_11_code
def yX2_hasWrongLinks : MethodName := ⟨RX2, "hasWrongLinks", "()Z"⟩
abbrev cX2_ownBlocks : ByteArray := prog_4_method_12_code
def yX2_ownBlocks : MethodName := ⟨RX2, "ownBlocks", "()Z"⟩
abbrev cX2_ownPlaces : ByteArray := prog_4_method_13_code
def yX2_ownPlaces : MethodName := ⟨RX2, "ownPlaces", "(III)Z"⟩
abbrev cX2_hasWrongMap : ByteArray := prog_4_method_14_code
def yX2_hasWrongMap : MethodName := ⟨RX2, "hasWrongMap", "()Z"⟩
def RX3 : String := "ClusterShelf$Journal"
def TX3 : u_T := fun k => match k with
  | 0 => ("ClusterShelf$Journal", "head", "I", true)
  | 1 => ("ClusterShelf$Journal", "log", "[I", true)
  | 2 => ("ClusterShelf$Journal", "logged", "I", false)
  | 3 => ("ClusterShelf$Journal", "blocks", "[I", true)
  | 4 => ("ClusterShelf$Journal", "words", "[I", true)
  | 5 => ("ClusterShelf$Journal", "count", "I", false)
  | 6 => ("ClusterShelf$Journal", "next", "I", false)
  | 7 => ("ClusterShelf$Journal", "begun", "I", false)
  | _ => ("ClusterShelf$Journal", "mark", "I", false)
def tyX3 : Nat → FieldType := fun k => match k with
  | 0 => .int
  | 1 => .array .int
  | 2 => .int
  | 3 => .array .int
  | 4 => .array .int
  | 5 => .int
  | 6 => .int
  | 7 => .int
  | _ => .int
abbrev wsX30 : List Cond := u_ws RX3 TX3 9
theorem nmX3 : ∀ a, a < 9 → ∀ b, b < 9 → a ≠ b → (TX3 a).2.1 ≠ (TX3 b).2.1 := by decide +kernel
theorem tyX3_ok : ∀ k, k < 9 → parseFieldDescriptor (TX3 k).2.2.1 = some (tyX3 k) := by decide +kernel
abbrev cX3_init : ByteArray := prog_5_method_1_code
def yX3_init : MethodName := ⟨RX3, "<init>", "(I)V"⟩
abbrev cX3_isFlushing : ByteArray := prog_5_method_2_code
def yX3_isFlushing : MethodName := ⟨RX3, "isFlushing", "()Z"⟩
abbrev cX3_isIdle : ByteArray := prog_5_method_3_code
def yX3_isIdle : MethodName := ⟨RX3, "isIdle", "()Z"⟩
abbrev cX3_left : ByteArray := prog_5_method_4_code
def yX3_left : MethodName := ⟨RX3, "left", "()I"⟩
abbrev cX3_isAtHead : ByteArray := prog_5_method_5_code
def yX3_isAtHead : MethodName := ⟨RX3, "isAtHead", "()Z"⟩
abbrev cX3_hasLogged : ByteArray := prog_5_method_6_code
def yX3_hasLogged : MethodName := ⟨RX3, "hasLogged", "(I)Z"⟩
abbrev cX3_add : ByteArray := prog_5_method_7_code
def yX3_add : MethodName := ⟨RX3, "add", "(I)V"⟩
abbrev cX3_remove : ByteArray := prog_5_method_8_code
def yX3_remove : MethodName := ⟨RX3, "remove", "(I)V"⟩
abbrev cX3_open : ByteArray := prog_5_method_9_code
def yX3_open : MethodName := ⟨RX3, "open", "(LClusterShelf$Cache;I)V"⟩
abbrev cX3_close : ByteArray := prog_5_method_10_code
def yX3_close : MethodName := ⟨RX3, "close", "()V"⟩
abbrev cX3_wipe : ByteArray := prog_5_method_11_code
def yX3_wipe : MethodName := ⟨RX3, "wipe", "()V"⟩
abbrev cX3_target : ByteArray := prog_5_method_12_code
def yX3_target : MethodName := ⟨RX3, "target", "()I"⟩
abbrev cX3_content : ByteArray := prog_5_method_13_code
def yX3_content : MethodName := ⟨RX3, "content", "(I)I"⟩
abbrev cX3_write : ByteArray := prog_5_method_14_code
def yX3_write : MethodName := ⟨RX3, "write", "([II)V"⟩
def RX4 : String := "ClusterShelf$Locks"
def TX4 : u_T := fun k => match k with
  | 0 => ("ClusterShelf$Locks", "held", "[I", true)
  | 1 => ("ClusterShelf$Locks", "asked", "[I", true)
  | 2 => ("ClusterShelf$Locks", "back", "[I", true)
  | 3 => ("ClusterShelf$Locks", "pinned", "[Z", true)
  | 4 => ("ClusterShelf$Locks", "list", "[I", true)
  | 5 => ("ClusterShelf$Locks", "listMode", "[I", true)
  | _ => ("ClusterShelf$Locks", "listCount", "I", false)
def tyX4 : Nat → FieldType := fun k => match k with
  | 0 => .array .int
  | 1 => .array .int
  | 2 => .array .int
  | 3 => .array .boolean
  | 4 => .array .int
  | 5 => .array .int
  | _ => .int
abbrev wsX40 : List Cond := u_ws RX4 TX4 7
theorem nmX4 : ∀ a, a < 7 → ∀ b, b < 7 → a ≠ b → (TX4 a).2.1 ≠ (TX4 b).2.1 := by decide +kernel
theorem tyX4_ok : ∀ k, k < 7 → parseFieldDescriptor (TX4 k).2.2.1 = some (tyX4 k) := by decide +kernel
abbrev cX4_init : ByteArray := prog_6_method_1_code
def yX4_init : MethodName := ⟨RX4, "<init>", "()V"⟩
abbrev cX4_waitsToGoDown : ByteArray := prog_6_method_2_code
def yX4_waitsToGoDown : MethodName := ⟨RX4, "waitsToGoDown", "(I)Z"⟩
abbrev cX4_grant : ByteArray := prog_6_method_3_code
def yX4_grant : MethodName := ⟨RX4, "grant", "(II)V"⟩
abbrev cX4_list : ByteArray := prog_6_method_4_code
def yX4_list : MethodName := ⟨RX4, "list", "(II)V"⟩
abbrev cX4_clearList : ByteArray := prog_6_method_5_code
def yX4_clearList : MethodName := ⟨RX4, "clearList", "()V"⟩
abbrev cX4_wipe : ByteArray := prog_6_method_6_code
def yX4_wipe : MethodName := ⟨RX4, "wipe", "()V"⟩
def RX5 : String := "ClusterShelf$Mail"
def TX5 : u_T := fun k => match k with
  | 0 => ("ClusterShelf$Mail", "delays", "[I", true)
  | 1 => ("ClusterShelf$Mail", "slots", "[I", true)
  | 2 => ("ClusterShelf$Mail", "due", "[I", true)
  | 3 => ("ClusterShelf$Mail", "count", "I", false)
  | _ => ("ClusterShelf$Mail", "sent", "I", false)
def tyX5 : Nat → FieldType := fun k => match k with
  | 0 => .array .int
  | 1 => .array .int
  | 2 => .array .int
  | 3 => .int
  | _ => .int
abbrev wsX50 : List Cond := u_ws RX5 TX5 5
theorem nmX5 : ∀ a, a < 5 → ∀ b, b < 5 → a ≠ b → (TX5 a).2.1 ≠ (TX5 b).2.1 := by decide +kernel
theorem tyX5_ok : ∀ k, k < 5 → parseFieldDescriptor (TX5 k).2.2.1 = some (tyX5 k) := by decide +kernel
abbrev cX5_init : ByteArray := prog_7_method_1_code
def yX5_init : MethodName := ⟨RX5, "<init>", "()V"⟩
abbrev cX5_send : ByteArray := prog_7_method_2_code
def yX5_send : MethodName := ⟨RX5, "send", "(IIIIII)V"⟩
abbrev cX5_gather : ByteArray := prog_7_method_3_code
def yX5_gather : MethodName := ⟨RX5, "gather", "(I)I"⟩
abbrev cX5_forget : ByteArray := prog_7_method_4_code
def yX5_forget : MethodName := ⟨RX5, "forget", "(I)V"⟩
def RX6 : String := "ClusterShelf$Masters"
def TX6 : u_T := fun k => match k with
  | 0 => ("ClusterShelf$Masters", "gave", "[I", true)
  | 1 => ("ClusterShelf$Masters", "called", "[I", true)
  | 2 => ("ClusterShelf$Masters", "rowNode", "[I", true)
  | 3 => ("ClusterShelf$Masters", "rowMode", "[I", true)
  | _ => ("ClusterShelf$Masters", "rowCount", "[I", true)
def tyX6 : Nat → FieldType := fun k => match k with
  | 0 => .array .int
  | 1 => .array .int
  | 2 => .array .int
  | 3 => .array .int
  | _ => .array .int
abbrev wsX60 : List Cond := u_ws RX6 TX6 5
theorem nmX6 : ∀ a, a < 5 → ∀ b, b < 5 → a ≠ b → (TX6 a).2.1 ≠ (TX6 b).2.1 := by decide +kernel
theorem tyX6_ok : ∀ k, k < 5 → parseFieldDescriptor (TX6 k).2.2.1 = some (tyX6 k) := by decide +kernel
abbrev cX6_init : ByteArray := prog_8_method_1_code
def yX6_init : MethodName := ⟨RX6, "<init>", "()V"⟩
abbrev cX6_ask : ByteArray := prog_8_method_2_code
def yX6_ask : MethodName := ⟨RX6, "ask", "(III)V"⟩
abbrev cX6_dropFirst : ByteArray := prog_8_method_3_code
def yX6_dropFirst : MethodName := ⟨RX6, "dropFirst", "(I)V"⟩
abbrev cX6_give : ByteArray := prog_8_method_4_code
def yX6_give : MethodName := ⟨RX6, "give", "(III)V"⟩
abbrev cX6_release : ByteArray := prog_8_method_5_code
def yX6_release : MethodName := ⟨RX6, "release", "(III)V"⟩
abbrev cX6_wipe : ByteArray := prog_8_method_6_code
def yX6_wipe : MethodName := ⟨RX6, "wipe", "(I)V"⟩
def RX7 : String := "ClusterShelf$Node"
def TX7 : u_T := fun k => match k with
  | 0 => ("ClusterShelf$Node", "number", "I", true)
  | 1 => ("ClusterShelf$Node", "cache", "LClusterShelf$Cache;", true)
  | 2 => ("ClusterShelf$Node", "journal", "LClusterShelf$Journal;", true)
  | 3 => ("ClusterShelf$Node", "locks", "LClusterShelf$Locks;", true)
  | 4 => ("ClusterShelf$Node", "task", "LClusterShelf$Task;", true)
  | 5 => ("ClusterShelf$Node", "up", "Z", false)
  | _ => ("ClusterShelf$Node", "joined", "Z", false)
def tyX7 : Nat → FieldType := fun k => match k with
  | 0 => .int
  | 1 => .object "ClusterShelf$Cache"
  | 2 => .object "ClusterShelf$Journal"
  | 3 => .object "ClusterShelf$Locks"
  | 4 => .object "ClusterShelf$Task"
  | 5 => .boolean
  | _ => .boolean
abbrev wsX70 : List Cond := u_ws RX7 TX7 7
theorem nmX7 : ∀ a, a < 7 → ∀ b, b < 7 → a ≠ b → (TX7 a).2.1 ≠ (TX7 b).2.1 := by decide +kernel
theorem tyX7_ok : ∀ k, k < 7 → parseFieldDescriptor (TX7 k).2.2.1 = some (tyX7 k) := by decide +kernel
abbrev cX7_init : ByteArray := prog_9_method_1_code
def yX7_init : MethodName := ⟨RX7, "<init>", "(I)V"⟩
abbrev cX7_goDark : ByteArray := prog_9_method_2_code
def yX7_goDark : MethodName := ⟨RX7, "goDark", "()V"⟩
def RX8 : String := "ClusterShelf$Task"
def TX8 : u_T := fun k => match k with
  | 0 => ("ClusterShelf$Task", "kind", "I", false)
  | 1 => ("ClusterShelf$Task", "a", "I", false)
  | 2 => ("ClusterShelf$Task", "b", "I", false)
  | 3 => ("ClusterShelf$Task", "c", "I", false)
  | 4 => ("ClusterShelf$Task", "d", "I", false)
  | 5 => ("ClusterShelf$Task", "state", "I", false)
  | 6 => ("ClusterShelf$Task", "value", "I", false)
  | 7 => ("ClusterShelf$Task", "began", "I", false)
  | 8 => ("ClusterShelf$Task", "took", "I", false)
  | 9 => ("ClusterShelf$Task", "tries", "I", false)
  | 10 => ("ClusterShelf$Task", "listed", "I", false)
  | _ => ("ClusterShelf$Task", "waitsForLog", "Z", false)
def tyX8 : Nat → FieldType := fun k => match k with
  | 0 => .int
  | 1 => .int
  | 2 => .int
  | 3 => .int
  | 4 => .int
  | 5 => .int
  | 6 => .int
  | 7 => .int
  | 8 => .int
  | 9 => .int
  | 10 => .int
  | _ => .boolean
abbrev wsX80 : List Cond := u_ws RX8 TX8 12
theorem nmX8 : ∀ a, a < 12 → ∀ b, b < 12 → a ≠ b → (TX8 a).2.1 ≠ (TX8 b).2.1 := by decide +kernel
theorem tyX8_ok : ∀ k, k < 12 → parseFieldDescriptor (TX8 k).2.2.1 = some (tyX8 k) := by decide +kernel
abbrev cX8_init : ByteArray := prog_10_method_1_code
def yX8_init : MethodName := ⟨RX8, "<init>", "()V"⟩
abbrev cX8_begin : ByteArray := prog_10_method_2_code
def yX8_begin : MethodName := ⟨RX8, "begin", "(II)V"⟩
abbrev cX8_take : ByteArray := prog_10_method_3_code
def yX8_take : MethodName := ⟨RX8, "take", "(IIII)V"⟩
abbrev cX8_end : ByteArray := prog_10_method_4_code
def yX8_end : MethodName := ⟨RX8, "end", "(III)V"⟩
def RX9 : String := "ClusterShelf$Trial"
def TX9 : u_T := fun k => match k with
  | 0 => ("ClusterShelf$Trial", "disk", "[I", true)
  | 1 => ("ClusterShelf$Trial", "changed", "[I", true)
  | 2 => ("ClusterShelf$Trial", "wasCached", "[Z", true)
  | 3 => ("ClusterShelf$Trial", "saved", "[I", true)
  | 4 => ("ClusterShelf$Trial", "isChanged", "[Z", true)
  | 5 => ("ClusterShelf$Trial", "changes", "I", false)
  | 6 => ("ClusterShelf$Trial", "given", "[I", true)
  | 7 => ("ClusterShelf$Trial", "givens", "I", false)
  | 8 => ("ClusterShelf$Trial", "node", "LClusterShelf$Node;", false)
  | 9 => ("ClusterShelf$Trial", "outcome", "I", false)
  | 10 => ("ClusterShelf$Trial", "value", "I", false)
  | 11 => ("ClusterShelf$Trial", "wantResource", "I", false)
  | 12 => ("ClusterShelf$Trial", "wantMode", "I", false)
  | 13 => ("ClusterShelf$Trial", "putInto", "I", false)
  | 14 => ("ClusterShelf$Trial", "putName", "I", false)
  | 15 => ("ClusterShelf$Trial", "putInode", "I", false)
  | _ => ("ClusterShelf$Trial", "unlinked", "I", false)
def tyX9 : Nat → FieldType := fun k => match k with
  | 0 => .array .int
  | 1 => .array .int
  | 2 => .array .boolean
  | 3 => .array .int
  | 4 => .array .boolean
  | 5 => .int
  | 6 => .array .int
  | 7 => .int
  | 8 => .object "ClusterShelf$Node"
  | 9 => .int
  | 10 => .int
  | 11 => .int
  | 12 => .int
  | 13 => .int
  | 14 => .int
  | 15 => .int
  | _ => .int
abbrev wsX90 : List Cond := u_ws RX9 TX9 17
theorem nmX9 : ∀ a, a < 17 → ∀ b, b < 17 → a ≠ b → (TX9 a).2.1 ≠ (TX9 b).2.1 := by decide +kernel
theorem tyX9_ok : ∀ k, k < 17 → parseFieldDescriptor (TX9 k).2.2.1 = some (tyX9 k) := by decide +kernel
abbrev cX9_init : ByteArray := prog_11_method_1_code
def yX9_init : MethodName := ⟨RX9, "<init>", "([ILClusterShelf$Node;)V"⟩
abbrev cX9_run : ByteArray := prog_11_method_2_code
def yX9_run : MethodName := ⟨RX9, "run", "(LClusterShelf$Node;)V"⟩
abbrev cX9_finish : ByteArray := prog_11_method_3_code
def yX9_finish : MethodName := ⟨RX9, "finish", "(I)V"⟩
abbrev cX9_fail : ByteArray := prog_11_method_4_code
def yX9_fail : MethodName := ⟨RX9, "fail", "(I)Z"⟩
abbrev cX9_undo : ByteArray := prog_11_method_5_code
def yX9_undo : MethodName := ⟨RX9, "undo", "()V"⟩
abbrev cX9_settle : ByteArray := prog_11_method_6_code
def yX9_settle : MethodName := ⟨RX9, "settle", "()V"⟩
abbrev cX9_forget : ByteArray := prog_11_method_7_code
def yX9_forget : MethodName := ⟨RX9, "forget", "()V"⟩
abbrev cX9_isTooMuch : ByteArray := prog_11_method_8_code
def yX9_isTooMuch : MethodName := ⟨RX9, "isTooMuch", "()Z"⟩
abbrev cX9_isGiven : ByteArray := prog_11_method_9_code
def yX9_isGiven : MethodName := ⟨RX9, "isGiven", "(I)Z"⟩
abbrev cX9_meet : ByteArray := prog_11_method_10_code
def yX9_meet : MethodName := ⟨RX9, "meet", "(II)Z"⟩
abbrev cX9_load : ByteArray := prog_11_method_11_code
def yX9_load : MethodName := ⟨RX9, "load", "(I)V"⟩
abbrev cX9_read : ByteArray := prog_11_method_12_code
def yX9_read : MethodName := ⟨RX9, "read", "(II)I"⟩
abbrev cX9_keep : ByteArray := prog_11_method_13_code
def yX9_keep : MethodName := ⟨RX9, "keep", "(I)V"⟩
abbrev cX9_set : ByteArray := prog_11_method_14_code
def yX9_set : MethodName := ⟨RX9, "set", "(III)V"⟩
abbrev cX9_clear : ByteArray := prog_11_method_15_code
def yX9_clear : MethodName := ⟨RX9, "clear", "(I)V"⟩
abbrev cX9_blockOf : ByteArray := prog_11_method_16_code
def yX9_blockOf : MethodName := ⟨RX9, "blockOf", "(II)I"⟩
abbrev cX9_reach : ByteArray := prog_11_method_17_code
def yX9_reach : MethodName := ⟨RX9, "reach", "(II)I"⟩
abbrev cX9_takeBlock : ByteArray := prog_11_method_18_code
def yX9_takeBlock : MethodName := ⟨RX9, "takeBlock", "(I)I"⟩
abbrev cX9_takeInode : ByteArray := prog_11_method_19_code
def yX9_takeInode : MethodName := ⟨RX9, "takeInode", "(I)I"⟩
abbrev cX9_giveBack : ByteArray := prog_11_method_20_code
def yX9_giveBack : MethodName := ⟨RX9, "giveBack", "(I)Z"⟩
abbrev cX9_givePlacesBack : ByteArray := prog_11_method_21_code
def yX9_givePlacesBack : MethodName := ⟨RX9, "givePlacesBack", "(III)Z"⟩
abbrev cX9_giveInodeBack : ByteArray := prog_11_method_22_code
def yX9_giveInodeBack : MethodName := ⟨RX9, "giveInodeBack", "(I)V"⟩
abbrev cX9_meetDirectory : ByteArray := prog_11_method_23_code
def yX9_meetDirectory : MethodName := ⟨RX9, "meetDirectory", "(II)Z"⟩
abbrev cX9_meetFile : ByteArray := prog_11_method_24_code
def yX9_meetFile : MethodName := ⟨RX9, "meetFile", "(II)Z"⟩
abbrev cX9_sizeOf : ByteArray := prog_11_method_25_code
def yX9_sizeOf : MethodName := ⟨RX9, "sizeOf", "(I)I"⟩
abbrev cX9_find : ByteArray := prog_11_method_26_code
def yX9_find : MethodName := ⟨RX9, "find", "(II)I"⟩
abbrev cX9_nameOf : ByteArray := prog_11_method_27_code
def yX9_nameOf : MethodName := ⟨RX9, "nameOf", "(II)I"⟩
abbrev cX9_inodeAt : ByteArray := prog_11_method_28_code
def yX9_inodeAt : MethodName := ⟨RX9, "inodeAt", "(II)I"⟩
abbrev cX9_eraseEntry : ByteArray := prog_11_method_29_code
def yX9_eraseEntry : MethodName := ⟨RX9, "eraseEntry", "(II)V"⟩
abbrev cX9_putNext : ByteArray := prog_11_method_30_code
def yX9_putNext : MethodName := ⟨RX9, "putNext", "(IIII)V"⟩
abbrev cX9_putEntry : ByteArray := prog_11_method_31_code
def yX9_putEntry : MethodName := ⟨RX9, "putEntry", "()V"⟩
abbrev cX9_seek : ByteArray := prog_11_method_32_code
def yX9_seek : MethodName := ⟨RX9, "seek", "(LClusterShelf$Task;)V"⟩
abbrev cX9_make : ByteArray := prog_11_method_33_code
def yX9_make : MethodName := ⟨RX9, "make", "(LClusterShelf$Task;)V"⟩
abbrev cX9_remove : ByteArray := prog_11_method_34_code
def yX9_remove : MethodName := ⟨RX9, "remove", "(LClusterShelf$Task;)V"⟩
abbrev cX9_link : ByteArray := prog_11_method_35_code
def yX9_link : MethodName := ⟨RX9, "link", "(LClusterShelf$Task;)V"⟩
abbrev cX9_rename : ByteArray := prog_11_method_36_code
def yX9_rename : MethodName := ⟨RX9, "rename", "(LClusterShelf$Task;)V"⟩
abbrev cX9_readWord : ByteArray := prog_11_method_37_code
def yX9_readWord : MethodName := ⟨RX9, "readWord", "(LClusterShelf$Task;)V"⟩
abbrev cX9_writeWord : ByteArray := prog_11_method_38_code
def yX9_writeWord : MethodName := ⟨RX9, "writeWord", "(LClusterShelf$Task;)V"⟩
abbrev cX9_cut : ByteArray := prog_11_method_39_code
def yX9_cut : MethodName := ⟨RX9, "cut", "(LClusterShelf$Task;)V"⟩
abbrev cX9_entry : ByteArray := prog_11_method_40_code
def yX9_entry : MethodName := ⟨RX9, "entry", "(LClusterShelf$Task;)V"⟩
abbrev cX9_count : ByteArray := prog_11_method_41_code
def yX9_count : MethodName := ⟨RX9, "count", "(LClusterShelf$Task;)V"⟩
abbrev cX9_stat : ByteArray := prog_11_method_42_code
def yX9_stat : MethodName := ⟨RX9, "stat", "(LClusterShelf$Task;)V"⟩
abbrev cX9_countPlaces : ByteArray := prog_11_method_43_code
def yX9_countPlaces : MethodName := ⟨RX9, "countPlaces", "(III)I"⟩
abbrev cX9_room : ByteArray := prog_11_method_44_code
def yX9_room : MethodName := ⟨RX9, "room", "()V"⟩
def RX10 : String := "ClusterShelf"
def TX10 : u_T := fun k => match k with
  | 0 => ("ClusterShelf", "disk", "[I", true)
  | 1 => ("ClusterShelf", "cluster", "[LClusterShelf$Node;", true)
  | 2 => ("ClusterShelf", "masters", "LClusterShelf$Masters;", true)
  | 3 => ("ClusterShelf", "mail", "LClusterShelf$Mail;", true)
  | 4 => ("ClusterShelf", "book", "LClusterShelf$Book;", true)
  | 5 => ("ClusterShelf", "trial", "LClusterShelf$Trial;", true)
  | 6 => ("ClusterShelf", "checker", "LClusterShelf$Checker;", true)
  | 7 => ("ClusterShelf", "time", "I", false)
  | 8 => ("ClusterShelf", "writes", "I", false)
  | _ => ("ClusterShelf", "lost", "I", false)
def tyX10 : Nat → FieldType := fun k => match k with
  | 0 => .array .int
  | 1 => .array (.object "ClusterShelf$Node")
  | 2 => .object "ClusterShelf$Masters"
  | 3 => .object "ClusterShelf$Mail"
  | 4 => .object "ClusterShelf$Book"
  | 5 => .object "ClusterShelf$Trial"
  | 6 => .object "ClusterShelf$Checker"
  | 7 => .int
  | 8 => .int
  | _ => .int
abbrev wsX100 : List Cond := u_ws RX10 TX10 10
theorem nmX10 : ∀ a, a < 10 → ∀ b, b < 10 → a ≠ b → (TX10 a).2.1 ≠ (TX10 b).2.1 := by decide +kernel
theorem tyX10_ok : ∀ k, k < 10 → parseFieldDescriptor (TX10 k).2.2.1 = some (tyX10 k) := by decide +kernel
abbrev cX10_init : ByteArray := prog_1_method_1_code
def yX10_init : MethodName := ⟨RX10, "<init>", "(I)V"⟩
abbrev cX10_call : ByteArray := prog_1_method_2_code
def yX10_call : MethodName := ⟨RX10, "call", "(IIIIII)I"⟩
abbrev cX10_delay : ByteArray := prog_1_method_3_code
def yX10_delay : MethodName := ⟨RX10, "delay", "(III)V"⟩
abbrev cX10_tick : ByteArray := prog_1_method_4_code
def yX10_tick : MethodName := ⟨RX10, "tick", "(I)I"⟩
abbrev cX10_crash : ByteArray := prog_1_method_5_code
def yX10_crash : MethodName := ⟨RX10, "crash", "(II)V"⟩
abbrev cX10_recover : ByteArray := prog_1_method_6_code
def yX10_recover : MethodName := ⟨RX10, "recover", "(I)I"⟩
abbrev cX10_start : ByteArray := prog_1_method_7_code
def yX10_start : MethodName := ⟨RX10, "start", "(I)V"⟩
abbrev cX10_result : ByteArray := prog_1_method_8_code
def yX10_result : MethodName := ⟨RX10, "result", "(II)I"⟩
abbrev cX10_history : ByteArray := prog_1_method_9_code
def yX10_history : MethodName := ⟨RX10, "history", "(II)I"⟩
abbrev cX10_word : ByteArray := prog_1_method_10_code
def yX10_word : MethodName := ⟨RX10, "word", "(II)I"⟩
abbrev cX10_cached : ByteArray := prog_1_method_11_code
def yX10_cached : MethodName := ⟨RX10, "cached", "(III)I"⟩
abbrev cX10_lock : ByteArray := prog_1_method_12_code
def yX10_lock : MethodName := ⟨RX10, "lock", "(III)I"⟩
abbrev cX10_row : ByteArray := prog_1_method_13_code
def yX10_row : MethodName := ⟨RX10, "row", "(II)I"⟩
abbrev cX10_message : ByteArray := prog_1_method_14_code
def yX10_message : MethodName := ⟨RX10, "message", "(II)I"⟩
abbrev cX10_node : ByteArray := prog_1_method_15_code
def yX10_node : MethodName := ⟨RX10, "node", "(II)I"⟩
abbrev cX10_about : ByteArray := prog_1_method_16_code
def yX10_about : MethodName := ⟨RX10, "about", "(I)I"⟩
abbrev cX10_isNode : ByteArray := prog_1_method_17_code
def yX10_isNode : MethodName := ⟨RX10, "isNode", "(I)Z"⟩
abbrev cX10_isResource : ByteArray := prog_1_method_18_code
def yX10_isResource : MethodName := ⟨RX10, "isResource", "(I)Z"⟩
abbrev cX10_isInode : ByteArray := prog_1_method_19_code
def yX10_isInode : MethodName := ⟨RX10, "isInode", "(I)Z"⟩
abbrev cX10_isBlock : ByteArray := prog_1_method_20_code
def yX10_isBlock : MethodName := ⟨RX10, "isBlock", "(I)Z"⟩
abbrev cX10_isWord : ByteArray := prog_1_method_21_code
def yX10_isWord : MethodName := ⟨RX10, "isWord", "(II)Z"⟩
abbrev cX10_isData : ByteArray := prog_1_method_22_code
def yX10_isData : MethodName := ⟨RX10, "isData", "(I)Z"⟩
abbrev cX10_isCall : ByteArray := prog_1_method_23_code
def yX10_isCall : MethodName := ⟨RX10, "isCall", "(IIIII)Z"⟩
abbrev cX10_inodeBlock : ByteArray := prog_1_method_24_code
def yX10_inodeBlock : MethodName := ⟨RX10, "inodeBlock", "(I)I"⟩
abbrev cX10_mapBlock : ByteArray := prog_1_method_25_code
def yX10_mapBlock : MethodName := ⟨RX10, "mapBlock", "(I)I"⟩
abbrev cX10_mapResource : ByteArray := prog_1_method_26_code
def yX10_mapResource : MethodName := ⟨RX10, "mapResource", "(I)I"⟩
abbrev cX10_groupOf : ByteArray := prog_1_method_27_code
def yX10_groupOf : MethodName := ⟨RX10, "groupOf", "(I)I"⟩
abbrev cX10_dataNumber : ByteArray := prog_1_method_28_code
def yX10_dataNumber : MethodName := ⟨RX10, "dataNumber", "(I)I"⟩
abbrev cX10_headBlock : ByteArray := prog_1_method_29_code
def yX10_headBlock : MethodName := ⟨RX10, "headBlock", "(I)I"⟩
abbrev cX10_someDownAndJoined : ByteArray := prog_1_method_30_code
def yX10_someDownAndJoined : MethodName := ⟨RX10, "someDownAndJoined", "()Z"⟩
abbrev cX10_usedByMaps : ByteArray := prog_1_method_31_code
def yX10_usedByMaps : MethodName := ⟨RX10, "usedByMaps", "(Z)I"⟩
abbrev cX10_masterOf : ByteArray := prog_1_method_32_code
def yX10_masterOf : MethodName := ⟨RX10, "masterOf", "(I)I"⟩
abbrev cX10_goOn : ByteArray := prog_1_method_33_code
def yX10_goOn : MethodName := ⟨RX10, "goOn", "(LClusterShelf$Node;)V"⟩
abbrev cX10_mayGoOn : ByteArray := prog_1_method_34_code
def yX10_mayGoOn : MethodName := ⟨RX10, "mayGoOn", "(LClusterShelf$Node;)Z"⟩
abbrev cX10_waitForLog : ByteArray := prog_1_method_35_code
def yX10_waitForLog : MethodName := ⟨RX10, "waitForLog", "(LClusterShelf$Node;)V"⟩
abbrev cX10_pinAll : ByteArray := prog_1_method_36_code
def yX10_pinAll : MethodName := ⟨RX10, "pinAll", "(LClusterShelf$Node;)Z"⟩
abbrev cX10_unpinAll : ByteArray := prog_1_method_37_code
def yX10_unpinAll : MethodName := ⟨RX10, "unpinAll", "(LClusterShelf$Node;)V"⟩
abbrev cX10_endCall : ByteArray := prog_1_method_38_code
def yX10_endCall : MethodName := ⟨RX10, "endCall", "(LClusterShelf$Node;)V"⟩
abbrev cX10_post : ByteArray := prog_1_method_39_code
def yX10_post : MethodName := ⟨RX10, "post", "(IIIII)V"⟩
abbrev cX10_deliver : ByteArray := prog_1_method_40_code
def yX10_deliver : MethodName := ⟨RX10, "deliver", "(I)I"⟩
abbrev cX10_serve : ByteArray := prog_1_method_41_code
def yX10_serve : MethodName := ⟨RX10, "serve", "(I)V"⟩
abbrev cX10_callOthersBack : ByteArray := prog_1_method_42_code
def yX10_callOthersBack : MethodName := ⟨RX10, "callOthersBack", "(IIII)Z"⟩
abbrev cX10_callBack : ByteArray := prog_1_method_43_code
def yX10_callBack : MethodName := ⟨RX10, "callBack", "(LClusterShelf$Node;III)Z"⟩
abbrev cX10_goDown : ByteArray := prog_1_method_44_code
def yX10_goDown : MethodName := ⟨RX10, "goDown", "(LClusterShelf$Node;I)V"⟩
abbrev cX10_beginFlush : ByteArray := prog_1_method_45_code
def yX10_beginFlush : MethodName := ⟨RX10, "beginFlush", "(LClusterShelf$Node;)V"⟩
abbrev cX10_writeNext : ByteArray := prog_1_method_46_code
def yX10_writeNext : MethodName := ⟨RX10, "writeNext", "(LClusterShelf$Node;)Z"⟩
abbrev cX10_endFlush : ByteArray := prog_1_method_47_code
def yX10_endFlush : MethodName := ⟨RX10, "endFlush", "(LClusterShelf$Node;)Z"⟩
abbrev cX10_tear : ByteArray := prog_1_method_48_code
def yX10_tear : MethodName := ⟨RX10, "tear", "(LClusterShelf$Node;I)V"⟩
abbrev cX10_replay : ByteArray := prog_1_method_49_code
def yX10_replay : MethodName := ⟨RX10, "replay", "(LClusterShelf$Node;)I"⟩
abbrev cX10_layLocksAnew : ByteArray := prog_1_method_50_code
def yX10_layLocksAnew : MethodName := ⟨RX10, "layLocksAnew", "()V"⟩
def RX11 : String := "ClusterShelfModel"
def TX11 : u_T := fun k => match k with
  | 0 => ("ClusterShelfModel", "thrown", "I", false)
  | 1 => ("ClusterShelfModel", "nodes", "I", true)
  | 2 => ("ClusterShelfModel", "time", "I", false)
  | 3 => ("ClusterShelfModel", "disk", "[I", true)
  | 4 => ("ClusterShelfModel", "up", "[Z", true)
  | 5 => ("ClusterShelfModel", "joined", "[Z", true)
  | 6 => ("ClusterShelfModel", "cache", "[I", true)
  | 7 => ("ClusterShelfModel", "has", "[Z", true)
  | 8 => ("ClusterShelfModel", "inLog", "[Z", true)
  | 9 => ("ClusterShelfModel", "logged", "[I", true)
  | 10 => ("ClusterShelfModel", "flushes", "[I", true)
  | 11 => ("ClusterShelfModel", "flushMany", "[I", true)
  | 12 => ("ClusterShelfModel", "flushAt", "[I", true)
  | 13 => ("ClusterShelfModel", "flushBlock", "[I", true)
  | 14 => ("ClusterShelfModel", "flushWord", "[I", true)
  | 15 => ("ClusterShelfModel", "holds", "[I", true)
  | 16 => ("ClusterShelfModel", "asked", "[I", true)
  | 17 => ("ClusterShelfModel", "back", "[I", true)
  | 18 => ("ClusterShelfModel", "pinned", "[Z", true)
  | 19 => ("ClusterShelfModel", "waits", "[Z", true)
  | 20 => ("ClusterShelfModel", "list", "[I", true)
  | 21 => ("ClusterShelfModel", "kind", "[I", true)
  | 22 => ("ClusterShelfModel", "argA", "[I", true)
  | 23 => ("ClusterShelfModel", "argB", "[I", true)
  | 24 => ("ClusterShelfModel", "argC", "[I", true)
  | 25 => ("ClusterShelfModel", "argD", "[I", true)
  | 26 => ("ClusterShelfModel", "stands", "[I", true)
  | 27 => ("ClusterShelfModel", "value", "[I", true)
  | 28 => ("ClusterShelfModel", "began", "[I", true)
  | 29 => ("ClusterShelfModel", "took", "[I", true)
  | 30 => ("ClusterShelfModel", "tried", "[I", true)
  | 31 => ("ClusterShelfModel", "listed", "[I", true)
  | 32 => ("ClusterShelfModel", "forLog", "[Z", true)
  | 33 => ("ClusterShelfModel", "gave", "[I", true)
  | 34 => ("ClusterShelfModel", "calledBack", "[I", true)
  | 35 => ("ClusterShelfModel", "rowMany", "[I", true)
  | 36 => ("ClusterShelfModel", "rowNode", "[I", true)
  | 37 => ("ClusterShelfModel", "rowMode", "[I", true)
  | 38 => ("ClusterShelfModel", "messages", "I", false)
  | 39 => ("ClusterShelfModel", "sent", "I", false)
  | 40 => ("ClusterShelfModel", "msFrom", "[I", true)
  | 41 => ("ClusterShelfModel", "msTo", "[I", true)
  | 42 => ("ClusterShelfModel", "msKind", "[I", true)
  | 43 => ("ClusterShelfModel", "msResource", "[I", true)
  | 44 => ("ClusterShelfModel", "msMode", "[I", true)
  | 45 => ("ClusterShelfModel", "msDue", "[I", true)
  | 46 => ("ClusterShelfModel", "delay", "[I", true)
  | 47 => ("ClusterShelfModel", "lastDue", "[I", true)
  | 48 => ("ClusterShelfModel", "writes", "I", false)
  | 49 => ("ClusterShelfModel", "ended", "I", false)
  | 50 => ("ClusterShelfModel", "lost", "I", false)
  | 51 => ("ClusterShelfModel", "who", "I", false)
  | 52 => ("ClusterShelfModel", "lacks", "I", false)
  | 53 => ("ClusterShelfModel", "lackMode", "I", false)
  | 54 => ("ClusterShelfModel", "fault", "I", false)
  | 55 => ("ClusterShelfModel", "result", "I", false)
  | 56 => ("ClusterShelfModel", "saved", "I", false)
  | 57 => ("ClusterShelfModel", "savedBlock", "[I", true)
  | 58 => ("ClusterShelfModel", "savedHas", "[Z", true)
  | 59 => ("ClusterShelfModel", "isSaved", "[Z", true)
  | 60 => ("ClusterShelfModel", "savedWord", "[I", true)
  | 61 => ("ClusterShelfModel", "gone", "I", false)
  | 62 => ("ClusterShelfModel", "goneBlock", "[I", true)
  | 63 => ("ClusterShelfModel", "told", "I", false)
  | 64 => ("ClusterShelfModel", "history", "[I", true)
  | 65 => ("ClusterShelfModel", "inFlush", "[Z", true)
  | 66 => ("ClusterShelfModel", "all", "[I", true)
  | 67 => ("ClusterShelfModel", "reached", "[Z", true)
  | 68 => ("ClusterShelfModel", "named", "[I", true)
  | 69 => ("ClusterShelfModel", "queue", "[I", true)
  | _ => ("ClusterShelfModel", "holders", "[I", true)
def tyX11 : Nat → FieldType := fun k => match k with
  | 0 => .int
  | 1 => .int
  | 2 => .int
  | 3 => .array .int
  | 4 => .array .boolean
  | 5 => .array .boolean
  | 6 => .array .int
  | 7 => .array .boolean
  | 8 => .array .boolean
  | 9 => .array .int
  | 10 => .array .int
  | 11 => .array .int
  | 12 => .array .int
  | 13 => .array .int
  | 14 => .array .int
  | 15 => .array .int
  | 16 => .array .int
  | 17 => .array .int
  | 18 => .array .boolean
  | 19 => .array .boolean
  | 20 => .array .int
  | 21 => .array .int
  | 22 => .array .int
  | 23 => .array .int
  | 24 => .array .int
  | 25 => .array .int
  | 26 => .array .int
  | 27 => .array .int
  | 28 => .array .int
  | 29 => .array .int
  | 30 => .array .int
  | 31 => .array .int
  | 32 => .array .boolean
  | 33 => .array .int
  | 34 => .array .int
  | 35 => .array .int
  | 36 => .array .int
  | 37 => .array .int
  | 38 => .int
  | 39 => .int
  | 40 => .array .int
  | 41 => .array .int
  | 42 => .array .int
  | 43 => .array .int
  | 44 => .array .int
  | 45 => .array .int
  | 46 => .array .int
  | 47 => .array .int
  | 48 => .int
  | 49 => .int
  | 50 => .int
  | 51 => .int
  | 52 => .int
  | 53 => .int
  | 54 => .int
  | 55 => .int
  | 56 => .int
  | 57 => .array .int
  | 58 => .array .boolean
  | 59 => .array .boolean
  | 60 => .array .int
  | 61 => .int
  | 62 => .array .int
  | 63 => .int
  | 64 => .array .int
  | 65 => .array .boolean
  | 66 => .array .int
  | 67 => .array .boolean
  | 68 => .array .int
  | 69 => .array .int
  | _ => .array .int
abbrev wsX110 : List Cond := u_ws RX11 TX11 71
theorem nmX11 : ∀ a, a < 71 → ∀ b, b < 71 → a ≠ b → (TX11 a).2.1 ≠ (TX11 b).2.1 := by decide +kernel
theorem tyX11_ok : ∀ k, k < 71 → parseFieldDescriptor (TX11 k).2.2.1 = some (tyX11 k) := by decide +kernel
abbrev cX11_init : ByteArray := prog_13_method_1_code
def yX11_init : MethodName := ⟨RX11, "<init>", "(I)V"⟩
abbrev cX11_thrown : ByteArray := prog_13_method_2_code
def yX11_thrown : MethodName := ⟨RX11, "thrown", "()I"⟩
abbrev cX11_refuse : ByteArray := prog_13_method_3_code
def yX11_refuse : MethodName := ⟨RX11, "refuse", "(ZZZ)Z"⟩
abbrev cX11_in : ByteArray := prog_13_method_4_code
def yX11_in : MethodName := ⟨RX11, "in", "(III)Z"⟩
abbrev cX11_mapOf : ByteArray := prog_13_method_5_code
def yX11_mapOf : MethodName := ⟨RX11, "mapOf", "(I)I"⟩
abbrev cX11_inodeBlock : ByteArray := prog_13_method_6_code
def yX11_inodeBlock : MethodName := ⟨RX11, "inodeBlock", "(I)I"⟩
abbrev cX11_dataBlock : ByteArray := prog_13_method_7_code
def yX11_dataBlock : MethodName := ⟨RX11, "dataBlock", "(II)I"⟩
abbrev cX11_at : ByteArray := prog_13_method_8_code
def yX11_at : MethodName := ⟨RX11, "at", "(II)I"⟩
abbrev cX11_masterOf : ByteArray := prog_13_method_9_code
def yX11_masterOf : MethodName := ⟨RX11, "masterOf", "(I)I"⟩
abbrev cX11_send : ByteArray := prog_13_method_10_code
def yX11_send : MethodName := ⟨RX11, "send", "(IIIII)V"⟩
abbrev cX11_removeMessage : ByteArray := prog_13_method_11_code
def yX11_removeMessage : MethodName := ⟨RX11, "removeMessage", "(I)V"⟩
abbrev cX11_noMessages : ByteArray := prog_13_method_12_code
def yX11_noMessages : MethodName := ⟨RX11, "noMessages", "()V"⟩
abbrev cX11_deliver : ByteArray := prog_13_method_13_code
def yX11_deliver : MethodName := ⟨RX11, "deliver", "(IIIII)V"⟩
abbrev cX11_addRequest : ByteArray := prog_13_method_14_code
def yX11_addRequest : MethodName := ⟨RX11, "addRequest", "(III)V"⟩
abbrev cX11_serve : ByteArray := prog_13_method_15_code
def yX11_serve : MethodName := ⟨RX11, "serve", "(I)V"⟩
abbrev cX11_against : ByteArray := prog_13_method_16_code
def yX11_against : MethodName := ⟨RX11, "against", "(III)Z"⟩
abbrev cX11_askBack : ByteArray := prog_13_method_17_code
def yX11_askBack : MethodName := ⟨RX11, "askBack", "(III)V"⟩
abbrev cX11_callBack : ByteArray := prog_13_method_18_code
def yX11_callBack : MethodName := ⟨RX11, "callBack", "(IIII)V"⟩
abbrev cX11_goDown : ByteArray := prog_13_method_19_code
def yX11_goDown : MethodName := ⟨RX11, "goDown", "(II)V"⟩
abbrev cX11_leave : ByteArray := prog_13_method_20_code
def yX11_leave : MethodName := ⟨RX11, "leave", "(II)V"⟩
abbrev cX11_forget : ByteArray := prog_13_method_21_code
def yX11_forget : MethodName := ⟨RX11, "forget", "(II)V"⟩
abbrev cX11_addWrite : ByteArray := prog_13_method_22_code
def yX11_addWrite : MethodName := ⟨RX11, "addWrite", "(II)V"⟩
abbrev cX11_writeWord : ByteArray := prog_13_method_23_code
def yX11_writeWord : MethodName := ⟨RX11, "writeWord", "(IIII)V"⟩
abbrev cX11_addCopy : ByteArray := prog_13_method_24_code
def yX11_addCopy : MethodName := ⟨RX11, "addCopy", "(III)V"⟩
abbrev cX11_beginFlush : ByteArray := prog_13_method_25_code
def yX11_beginFlush : MethodName := ⟨RX11, "beginFlush", "(I)V"⟩
abbrev cX11_addHead : ByteArray := prog_13_method_26_code
def yX11_addHead : MethodName := ⟨RX11, "addHead", "(III)V"⟩
abbrev cX11_isCalling : ByteArray := prog_13_method_27_code
def yX11_isCalling : MethodName := ⟨RX11, "isCalling", "(I)Z"⟩
abbrev cX11_flushOver : ByteArray := prog_13_method_28_code
def yX11_flushOver : MethodName := ⟨RX11, "flushOver", "(I)V"⟩
abbrev cX11_unpin : ByteArray := prog_13_method_29_code
def yX11_unpin : MethodName := ⟨RX11, "unpin", "(I)V"⟩
abbrev cX11_end : ByteArray := prog_13_method_30_code
def yX11_end : MethodName := ⟨RX11, "end", "(III)V"⟩
abbrev cX11_note : ByteArray := prog_13_method_31_code
def yX11_note : MethodName := ⟨RX11, "note", "(IIII)V"⟩
abbrev cX11_noteFlush : ByteArray := prog_13_method_32_code
def yX11_noteFlush : MethodName := ⟨RX11, "noteFlush", "(I)V"⟩
abbrev cX11_noteSafe : ByteArray := prog_13_method_33_code
def yX11_noteSafe : MethodName := ⟨RX11, "noteSafe", "(I)V"⟩
abbrev cX11_noteGone : ByteArray := prog_13_method_34_code
def yX11_noteGone : MethodName := ⟨RX11, "noteGone", "(I)V"⟩
abbrev cX11_pinAll : ByteArray := prog_13_method_35_code
def yX11_pinAll : MethodName := ⟨RX11, "pinAll", "(I)Z"⟩
abbrev cX11_goOn : ByteArray := prog_13_method_36_code
def yX11_goOn : MethodName := ⟨RX11, "goOn", "(I)V"⟩
abbrev cX11_goOnSync : ByteArray := prog_13_method_37_code
def yX11_goOnSync : MethodName := ⟨RX11, "goOnSync", "(I)V"⟩
abbrev cX11_isTriedAgain : ByteArray := prog_13_method_38_code
def yX11_isTriedAgain : MethodName := ⟨RX11, "isTriedAgain", "(I)Z"⟩
abbrev cX11_keepAll : ByteArray := prog_13_method_39_code
def yX11_keepAll : MethodName := ⟨RX11, "keepAll", "(I)V"⟩
abbrev cX11_undo : ByteArray := prog_13_method_40_code
def yX11_undo : MethodName := ⟨RX11, "undo", "()V"⟩
abbrev cX11_isOver : ByteArray := prog_13_method_41_code
def yX11_isOver : MethodName := ⟨RX11, "isOver", "()Z"⟩
abbrev cX11_fail : ByteArray := prog_13_method_42_code
def yX11_fail : MethodName := ⟨RX11, "fail", "(I)V"⟩
abbrev cX11_meets : ByteArray := prog_13_method_43_code
def yX11_meets : MethodName := ⟨RX11, "meets", "(II)Z"⟩
abbrev cX11_fetch : ByteArray := prog_13_method_44_code
def yX11_fetch : MethodName := ⟨RX11, "fetch", "(I)V"⟩
abbrev cX11_get : ByteArray := prog_13_method_45_code
def yX11_get : MethodName := ⟨RX11, "get", "(II)I"⟩
abbrev cX11_save : ByteArray := prog_13_method_46_code
def yX11_save : MethodName := ⟨RX11, "save", "(I)V"⟩
abbrev cX11_set : ByteArray := prog_13_method_47_code
def yX11_set : MethodName := ⟨RX11, "set", "(III)V"⟩
abbrev cX11_clear : ByteArray := prog_13_method_48_code
def yX11_clear : MethodName := ⟨RX11, "clear", "(I)V"⟩
abbrev cX11_ofInode : ByteArray := prog_13_method_49_code
def yX11_ofInode : MethodName := ⟨RX11, "ofInode", "(II)I"⟩
abbrev cX11_setInode : ByteArray := prog_13_method_50_code
def yX11_setInode : MethodName := ⟨RX11, "setInode", "(III)V"⟩
abbrev cX11_takeBlock : ByteArray := prog_13_method_51_code
def yX11_takeBlock : MethodName := ⟨RX11, "takeBlock", "(I)I"⟩
abbrev cX11_giveBack : ByteArray := prog_13_method_52_code
def yX11_giveBack : MethodName := ⟨RX11, "giveBack", "(I)V"⟩
abbrev cX11_blockOf : ByteArray := prog_13_method_53_code
def yX11_blockOf : MethodName := ⟨RX11, "blockOf", "(II)I"⟩
abbrev cX11_wordOf : ByteArray := prog_13_method_54_code
def yX11_wordOf : MethodName := ⟨RX11, "wordOf", "(II)I"⟩
abbrev cX11_blockFor : ByteArray := prog_13_method_55_code
def yX11_blockFor : MethodName := ⟨RX11, "blockFor", "(II)I"⟩
abbrev cX11_find : ByteArray := prog_13_method_56_code
def yX11_find : MethodName := ⟨RX11, "find", "(II)I"⟩
abbrev cX11_setEntry : ByteArray := prog_13_method_57_code
def yX11_setEntry : MethodName := ⟨RX11, "setEntry", "(IIII)V"⟩
abbrev cX11_putEntry : ByteArray := prog_13_method_58_code
def yX11_putEntry : MethodName := ⟨RX11, "putEntry", "(III)V"⟩
abbrev cX11_isOf : ByteArray := prog_13_method_59_code
def yX11_isOf : MethodName := ⟨RX11, "isOf", "(IIII)Z"⟩
abbrev cX11_attempt : ByteArray := prog_13_method_60_code
def yX11_attempt : MethodName := ⟨RX11, "attempt", "(I)V"⟩
abbrev cX11_tryLook : ByteArray := prog_13_method_61_code
def yX11_tryLook : MethodName := ⟨RX11, "tryLook", "(II)V"⟩
abbrev cX11_takeInode : ByteArray := prog_13_method_62_code
def yX11_takeInode : MethodName := ⟨RX11, "takeInode", "(I)I"⟩
abbrev cX11_tryMake : ByteArray := prog_13_method_63_code
def yX11_tryMake : MethodName := ⟨RX11, "tryMake", "(III)V"⟩
abbrev cX11_tryRemove : ByteArray := prog_13_method_64_code
def yX11_tryRemove : MethodName := ⟨RX11, "tryRemove", "(II)V"⟩
abbrev cX11_hasEntry : ByteArray := prog_13_method_65_code
def yX11_hasEntry : MethodName := ⟨RX11, "hasEntry", "(I)Z"⟩
abbrev cX11_giveAll : ByteArray := prog_13_method_66_code
def yX11_giveAll : MethodName := ⟨RX11, "giveAll", "(I)V"⟩
abbrev cX11_tryLink : ByteArray := prog_13_method_67_code
def yX11_tryLink : MethodName := ⟨RX11, "tryLink", "(III)V"⟩
abbrev cX11_tryRename : ByteArray := prog_13_method_68_code
def yX11_tryRename : MethodName := ⟨RX11, "tryRename", "(IIII)V"⟩
abbrev cX11_tryWrite : ByteArray := prog_13_method_69_code
def yX11_tryWrite : MethodName := ⟨RX11, "tryWrite", "(IIIZ)V"⟩
abbrev cX11_tryAppend : ByteArray := prog_13_method_70_code
def yX11_tryAppend : MethodName := ⟨RX11, "tryAppend", "(II)V"⟩
abbrev cX11_tryCount : ByteArray := prog_13_method_71_code
def yX11_tryCount : MethodName := ⟨RX11, "tryCount", "(I)V"⟩
abbrev cX11_tryRoom : ByteArray := prog_13_method_72_code
def yX11_tryRoom : MethodName := ⟨RX11, "tryRoom", "()V"⟩
abbrev cX11_tryCut : ByteArray := prog_13_method_73_code
def yX11_tryCut : MethodName := ⟨RX11, "tryCut", "(II)V"⟩
abbrev cX11_tryEntry : ByteArray := prog_13_method_74_code
def yX11_tryEntry : MethodName := ⟨RX11, "tryEntry", "(II)V"⟩
abbrev cX11_tryStat : ByteArray := prog_13_method_75_code
def yX11_tryStat : MethodName := ⟨RX11, "tryStat", "(II)V"⟩
abbrev cX11_isInode : ByteArray := prog_13_method_76_code
def yX11_isInode : MethodName := ⟨RX11, "isInode", "(I)Z"⟩
abbrev cX11_isGiven : ByteArray := prog_13_method_77_code
def yX11_isGiven : MethodName := ⟨RX11, "isGiven", "(IIIII)Z"⟩
abbrev cX11_isNode : ByteArray := prog_13_method_78_code
def yX11_isNode : MethodName := ⟨RX11, "isNode", "(I)Z"⟩
abbrev cX11_call : ByteArray := prog_13_method_79_code
def yX11_call : MethodName := ⟨RX11, "call", "(IIIIII)I"⟩
abbrev cX11_delay : ByteArray := prog_13_method_80_code
def yX11_delay : MethodName := ⟨RX11, "delay", "(III)V"⟩
abbrev cX11_putWords : ByteArray := prog_13_method_81_code
def yX11_putWords : MethodName := ⟨RX11, "putWords", "(III)V"⟩
abbrev cX11_isCounting : ByteArray := prog_13_method_82_code
def yX11_isCounting : MethodName := ⟨RX11, "isCounting", "(I)Z"⟩
abbrev cX11_oneTick : ByteArray := prog_13_method_83_code
def yX11_oneTick : MethodName := ⟨RX11, "oneTick", "()V"⟩
abbrev cX11_tick : ByteArray := prog_13_method_84_code
def yX11_tick : MethodName := ⟨RX11, "tick", "(I)I"⟩
abbrev cX11_noneOf : ByteArray := prog_13_method_85_code
def yX11_noneOf : MethodName := ⟨RX11, "noneOf", "(I)V"⟩
abbrev cX11_noMaster : ByteArray := prog_13_method_86_code
def yX11_noMaster : MethodName := ⟨RX11, "noMaster", "(I)V"⟩
abbrev cX11_crash : ByteArray := prog_13_method_87_code
def yX11_crash : MethodName := ⟨RX11, "crash", "(II)V"⟩
abbrev cX11_layAnew : ByteArray := prog_13_method_88_code
def yX11_layAnew : MethodName := ⟨RX11, "layAnew", "()V"⟩
abbrev cX11_isDead : ByteArray := prog_13_method_89_code
def yX11_isDead : MethodName := ⟨RX11, "isDead", "(I)Z"⟩
abbrev cX11_recover : ByteArray := prog_13_method_90_code
def yX11_recover : MethodName := ⟨RX11, "recover", "(I)I"⟩
abbrev cX11_play : ByteArray := prog_13_method_91_code
def yX11_play : MethodName := ⟨RX11, "play", "(I)I"⟩
abbrev cX11_start : ByteArray := prog_13_method_92_code
def yX11_start : MethodName := ⟨RX11, "start", "(I)V"⟩
abbrev cX11_result : ByteArray := prog_13_method_93_code
def yX11_result : MethodName := ⟨RX11, "result", "(II)I"⟩
abbrev cX11_history : ByteArray := prog_13_method_94_code
def yX11_history : MethodName := ⟨RX11, "history", "(II)I"⟩
abbrev cX11_isWord : ByteArray := prog_13_method_95_code
def yX11_isWord : MethodName := ⟨RX11, "isWord", "(II)Z"⟩
abbrev cX11_word : ByteArray := prog_13_method_96_code
def yX11_word : MethodName := ⟨RX11, "word", "(II)I"⟩
abbrev cX11_cached : ByteArray := prog_13_method_97_code
def yX11_cached : MethodName := ⟨RX11, "cached", "(III)I"⟩
abbrev cX11_lock : ByteArray := prog_13_method_98_code
def yX11_lock : MethodName := ⟨RX11, "lock", "(III)I"⟩
abbrev cX11_row : ByteArray := prog_13_method_99_code
def yX11_row : MethodName := ⟨RX11, "row", "(II)I"⟩
abbrev cX11_message : ByteArray := prog_13_method_100_code
def yX11_message : MethodName := ⟨RX11, "message", "(II)I"⟩
abbrev cX11_node : ByteArray := prog_13_method_101_code
def yX11_node : MethodName := ⟨RX11, "node", "(II)I"⟩
abbrev cX11_asRecovered : ByteArray := prog_13_method_102_code
def yX11_asRecovered : MethodName := ⟨RX11, "asRecovered", "()V"⟩
abbrev cX11_allInode : ByteArray := prog_13_method_103_code
def yX11_allInode : MethodName := ⟨RX11, "allInode", "(II)I"⟩
abbrev cX11_isData : ByteArray := prog_13_method_104_code
def yX11_isData : MethodName := ⟨RX11, "isData", "(I)Z"⟩
abbrev cX11_allWord : ByteArray := prog_13_method_105_code
def yX11_allWord : MethodName := ⟨RX11, "allWord", "(II)I"⟩
abbrev cX11_reach : ByteArray := prog_13_method_106_code
def yX11_reach : MethodName := ⟨RX11, "reach", "()Z"⟩
abbrev cX11_hold : ByteArray := prog_13_method_107_code
def yX11_hold : MethodName := ⟨RX11, "hold", "(I)V"⟩
abbrev cX11_findHolders : ByteArray := prog_13_method_108_code
def yX11_findHolders : MethodName := ⟨RX11, "findHolders", "()V"⟩
abbrev cX11_areMapsWrong : ByteArray := prog_13_method_109_code
def yX11_areMapsWrong : MethodName := ⟨RX11, "areMapsWrong", "()Z"⟩
abbrev cX11_whole : ByteArray := prog_13_method_110_code
def yX11_whole : MethodName := ⟨RX11, "whole", "()I"⟩
abbrev cX11_used : ByteArray := prog_13_method_111_code
def yX11_used : MethodName := ⟨RX11, "used", "(Z)I"⟩
abbrev cX11_about : ByteArray := prog_13_method_112_code
def yX11_about : MethodName := ⟨RX11, "about", "(I)I"⟩
def RJx145de : String := "java/io/Serializable"
def TJx145de : u_T := fun k => match k with
  | _ => ("", "", "", false)
def tyJx145de : Nat → FieldType := fun k => match k with
  | _ => .int
abbrev wsJx145de0 : List Cond := u_ws RJx145de TJx145de 0
theorem nmJx145de : ∀ a, a < 0 → ∀ b, b < 0 → a ≠ b → (TJx145de a).2.1 ≠ (TJx145de b).2.1 := by decide +kernel
theorem tyJx145de_ok : ∀ k, k < 0 → parseFieldDescriptor (TJx145de k).2.2.1 = some (tyJx145de k) := by decide +kernel
def RJ6 : String := "java/lang/Integer"
def TJ6 : u_T := fun k => match k with
  | _ => ("", "", "", false)
def tyJ6 : Nat → FieldType := fun k => match k with
  | _ => .int
abbrev wsJ60 : List Cond := u_ws RJ6 TJ6 0
theorem nmJ6 : ∀ a, a < 0 → ∀ b, b < 0 → a ≠ b → (TJ6 a).2.1 ≠ (TJ6 b).2.1 := by decide +kernel
theorem tyJ6_ok : ∀ k, k < 0 → parseFieldDescriptor (TJ6 k).2.2.1 = some (tyJ6 k) := by decide +kernel
abbrev cJ6_numberOfTrailingZeros_0f7a4 : ByteArray := prog_19_method_48_code
def yJ6_numberOfTrailingZeros_0f7a4 : MethodName := ⟨RJ6, "numberOfTrailingZeros", "(I)I"⟩
abbrev cJ6_bitCount_0f7a4 : ByteArray := prog_19_method_49_code
def yJ6_bitCount_0f7a4 : MethodName := ⟨RJ6, "bitCount", "(I)I"⟩
def RJ9 : String := "java/lang/Math"
def TJ9 : u_T := fun k => match k with
  | _ => ("", "", "", false)
def tyJ9 : Nat → FieldType := fun k => match k with
  | _ => .int
abbrev wsJ90 : List Cond := u_ws RJ9 TJ9 0
theorem nmJ9 : ∀ a, a < 0 → ∀ b, b < 0 → a ≠ b → (TJ9 a).2.1 ≠ (TJ9 b).2.1 := by decide +kernel
theorem tyJ9_ok : ∀ k, k < 0 → parseFieldDescriptor (TJ9 k).2.2.1 = some (tyJ9 k) := by decide +kernel
abbrev cJ9_max_7cf53 : ByteArray := prog_20_method_65_code
def yJ9_max_7cf53 : MethodName := ⟨RJ9, "max", "(II)I"⟩
abbrev cJ9_min_7cf53 : ByteArray := prog_20_method_69_code
def yJ9_min_7cf53 : MethodName := ⟨RJ9, "min", "(II)I"⟩
def RJ0 : String := "java/lang/String"
def TJ0 : u_T := fun k => match k with
  | _ => ("", "", "", false)
def tyJ0 : Nat → FieldType := fun k => match k with
  | _ => .int
abbrev wsJ00 : List Cond := u_ws RJ0 TJ0 0
theorem nmJ0 : ∀ a, a < 0 → ∀ b, b < 0 → a ≠ b → (TJ0 a).2.1 ≠ (TJ0 b).2.1 := by decide +kernel
theorem tyJ0_ok : ∀ k, k < 0 → parseFieldDescriptor (TJ0 k).2.2.1 = some (tyJ0 k) := by decide +kernel
def RJ10 : String := "java/lang/System"
def TJ10 : u_T := fun k => match k with
  | _ => ("", "", "", false)
def tyJ10 : Nat → FieldType := fun k => match k with
  | _ => .int
abbrev wsJ100 : List Cond := u_ws RJ10 TJ10 0
theorem nmJ10 : ∀ a, a < 0 → ∀ b, b < 0 → a ≠ b → (TJ10 a).2.1 ≠ (TJ10 b).2.1 := by decide +kernel
theorem tyJ10_ok : ∀ k, k < 0 → parseFieldDescriptor (TJ10 k).2.2.1 = some (tyJ10 k) := by decide +kernel
def RJ7 : String := "java/util/Arrays"
def TJ7 : u_T := fun k => match k with
  | _ => ("", "", "", false)
def tyJ7 : Nat → FieldType := fun k => match k with
  | _ => .int
abbrev wsJ70 : List Cond := u_ws RJ7 TJ7 0
theorem nmJ7 : ∀ a, a < 0 → ∀ b, b < 0 → a ≠ b → (TJ7 a).2.1 ≠ (TJ7 b).2.1 := by decide +kernel
theorem tyJ7_ok : ∀ k, k < 0 → parseFieldDescriptor (TJ7 k).2.2.1 = some (tyJ7 k) := by decide +kernel
abbrev cJ7_fill_53178 : ByteArray := prog_25_method_103_code
def yJ7_fill_53178 : MethodName := ⟨RJ7, "fill", "([II)V"⟩
def RL : String := "ClusterShelfLaw"
abbrev cL_cell : ByteArray := method_2_code
def yL_cell : MethodName := ⟨RL, "cell", "([II)I"⟩
abbrev cL_call : ByteArray := method_3_code
def yL_call : MethodName := ⟨RL, "call", "(LClusterShelf;IIIIII[J)I"⟩
abbrev cL_delay : ByteArray := method_4_code
def yL_delay : MethodName := ⟨RL, "delay", "(LClusterShelf;III)I"⟩
abbrev cL_tick : ByteArray := method_5_code
def yL_tick : MethodName := ⟨RL, "tick", "(LClusterShelf;I[J)I"⟩
abbrev cL_crash : ByteArray := method_6_code
def yL_crash : MethodName := ⟨RL, "crash", "(LClusterShelf;II)I"⟩
abbrev cL_recover : ByteArray := method_7_code
def yL_recover : MethodName := ⟨RL, "recover", "(LClusterShelf;I[J)I"⟩
abbrev cL_start : ByteArray := method_8_code
def yL_start : MethodName := ⟨RL, "start", "(LClusterShelf;I)I"⟩
abbrev cL_result : ByteArray := method_9_code
def yL_result : MethodName := ⟨RL, "result", "(LClusterShelf;II[J)I"⟩
abbrev cL_history : ByteArray := method_10_code
def yL_history : MethodName := ⟨RL, "history", "(LClusterShelf;II[J)I"⟩
abbrev cL_word : ByteArray := method_11_code
def yL_word : MethodName := ⟨RL, "word", "(LClusterShelf;II[J)I"⟩
abbrev cL_cached : ByteArray := method_12_code
def yL_cached : MethodName := ⟨RL, "cached", "(LClusterShelf;III[J)I"⟩
abbrev cL_lock : ByteArray := method_13_code
def yL_lock : MethodName := ⟨RL, "lock", "(LClusterShelf;III[J)I"⟩
abbrev cL_row : ByteArray := method_14_code
def yL_row : MethodName := ⟨RL, "row", "(LClusterShelf;II[J)I"⟩
abbrev cL_message : ByteArray := method_15_code
def yL_message : MethodName := ⟨RL, "message", "(LClusterShelf;II[J)I"⟩
abbrev cL_node : ByteArray := method_16_code
def yL_node : MethodName := ⟨RL, "node", "(LClusterShelf;II[J)I"⟩
abbrev cL_about : ByteArray := method_17_code
def yL_about : MethodName := ⟨RL, "about", "(LClusterShelf;I[J)I"⟩
abbrev cL_law : ByteArray := code
def yL_law : MethodName := ⟨RL, "law", "([I)Z"⟩
def wsJ7_fill_53178 : List Cond := .code yJ7_fill_53178 cJ7_fill_53178 4 none :: ([])
def wsJ6_numberOfTrailingZeros_0f7a4 : List Cond := .code yJ6_numberOfTrailingZeros_0f7a4 cJ6_numberOfTrailingZeros_0f7a4 2 (some .int) :: ([.constant RJ6 264 (65536)])
def wsJ6_bitCount_0f7a4 : List Cond := .code yJ6_bitCount_0f7a4 cJ6_bitCount_0f7a4 1 (some .int) :: ([.constant RJ6 265 (1431655765), .constant RJ6 266 (858993459), .constant RJ6 267 (252645135)])
def wsJ9_max_7cf53 : List Cond := .code yJ9_max_7cf53 cJ9_max_7cf53 2 (some .int) :: ([])
def wsJ9_min_7cf53 : List Cond := .code yJ9_min_7cf53 cJ9_min_7cf53 2 (some .int) :: ([])
theorem dJ6_numberOfTrailingZeros_0f7a4_0 : decode cJ6_numberOfTrailingZeros_0f7a4 0 = .ok (.iload_n 0, 1) := by decide +kernel
theorem dJ6_numberOfTrailingZeros_0f7a4_1 : decode cJ6_numberOfTrailingZeros_0f7a4 1 = .ok (.iconst (-1), 1) := by decide +kernel
theorem dJ6_numberOfTrailingZeros_0f7a4_2 : decode cJ6_numberOfTrailingZeros_0f7a4 2 = .ok (.ixor, 1) := by decide +kernel
theorem dJ6_numberOfTrailingZeros_0f7a4_3 : decode cJ6_numberOfTrailingZeros_0f7a4 3 = .ok (.iload_n 0, 1) := by decide +kernel
theorem dJ6_numberOfTrailingZeros_0f7a4_4 : decode cJ6_numberOfTrailingZeros_0f7a4 4 = .ok (.iconst 1, 1) := by decide +kernel
theorem dJ6_numberOfTrailingZeros_0f7a4_5 : decode cJ6_numberOfTrailingZeros_0f7a4 5 = .ok (.isub, 1) := by decide +kernel
theorem dJ6_numberOfTrailingZeros_0f7a4_6 : decode cJ6_numberOfTrailingZeros_0f7a4 6 = .ok (.iand, 1) := by decide +kernel
theorem dJ6_numberOfTrailingZeros_0f7a4_7 : decode cJ6_numberOfTrailingZeros_0f7a4 7 = .ok (.istore_n 0, 1) := by decide +kernel
theorem dJ6_numberOfTrailingZeros_0f7a4_8 : decode cJ6_numberOfTrailingZeros_0f7a4 8 = .ok (.iload_n 0, 1) := by decide +kernel
theorem dJ6_numberOfTrailingZeros_0f7a4_9 : decode cJ6_numberOfTrailingZeros_0f7a4 9 = .ok (.ifCond .gt 8, 3) := by decide +kernel
theorem dJ6_numberOfTrailingZeros_0f7a4_12 : decode cJ6_numberOfTrailingZeros_0f7a4 12 = .ok (.iload_n 0, 1) := by decide +kernel
theorem dJ6_numberOfTrailingZeros_0f7a4_13 : decode cJ6_numberOfTrailingZeros_0f7a4 13 = .ok (.bipush 32, 2) := by decide +kernel
theorem dJ6_numberOfTrailingZeros_0f7a4_15 : decode cJ6_numberOfTrailingZeros_0f7a4 15 = .ok (.iand, 1) := by decide +kernel
theorem dJ6_numberOfTrailingZeros_0f7a4_16 : decode cJ6_numberOfTrailingZeros_0f7a4 16 = .ok (.ireturn, 1) := by decide +kernel
theorem dJ6_numberOfTrailingZeros_0f7a4_17 : decode cJ6_numberOfTrailingZeros_0f7a4 17 = .ok (.iconst 1, 1) := by decide +kernel
theorem dJ6_numberOfTrailingZeros_0f7a4_18 : decode cJ6_numberOfTrailingZeros_0f7a4 18 = .ok (.istore_n 1, 1) := by decide +kernel
theorem dJ6_numberOfTrailingZeros_0f7a4_19 : decode cJ6_numberOfTrailingZeros_0f7a4 19 = .ok (.iload_n 0, 1) := by decide +kernel
theorem dJ6_numberOfTrailingZeros_0f7a4_20 : decode cJ6_numberOfTrailingZeros_0f7a4 20 = .ok (.ldc_w 264, 3) := by decide +kernel
theorem dJ6_numberOfTrailingZeros_0f7a4_23 : decode cJ6_numberOfTrailingZeros_0f7a4 23 = .ok (.if_icmp .le 11, 3) := by decide +kernel
theorem dJ6_numberOfTrailingZeros_0f7a4_26 : decode cJ6_numberOfTrailingZeros_0f7a4 26 = .ok (.iinc 1 16, 3) := by decide +kernel
theorem dJ6_numberOfTrailingZeros_0f7a4_29 : decode cJ6_numberOfTrailingZeros_0f7a4 29 = .ok (.iload_n 0, 1) := by decide +kernel
theorem dJ6_numberOfTrailingZeros_0f7a4_30 : decode cJ6_numberOfTrailingZeros_0f7a4 30 = .ok (.bipush 16, 2) := by decide +kernel
theorem dJ6_numberOfTrailingZeros_0f7a4_32 : decode cJ6_numberOfTrailingZeros_0f7a4 32 = .ok (.iushr, 1) := by decide +kernel
theorem dJ6_numberOfTrailingZeros_0f7a4_33 : decode cJ6_numberOfTrailingZeros_0f7a4 33 = .ok (.istore_n 0, 1) := by decide +kernel
theorem dJ6_numberOfTrailingZeros_0f7a4_34 : decode cJ6_numberOfTrailingZeros_0f7a4 34 = .ok (.iload_n 0, 1) := by decide +kernel
theorem dJ6_numberOfTrailingZeros_0f7a4_35 : decode cJ6_numberOfTrailingZeros_0f7a4 35 = .ok (.sipush 256, 3) := by decide +kernel
theorem dJ6_numberOfTrailingZeros_0f7a4_38 : decode cJ6_numberOfTrailingZeros_0f7a4 38 = .ok (.if_icmp .le 11, 3) := by decide +kernel
theorem dJ6_numberOfTrailingZeros_0f7a4_41 : decode cJ6_numberOfTrailingZeros_0f7a4 41 = .ok (.iinc 1 8, 3) := by decide +kernel
theorem dJ6_numberOfTrailingZeros_0f7a4_44 : decode cJ6_numberOfTrailingZeros_0f7a4 44 = .ok (.iload_n 0, 1) := by decide +kernel
theorem dJ6_numberOfTrailingZeros_0f7a4_45 : decode cJ6_numberOfTrailingZeros_0f7a4 45 = .ok (.bipush 8, 2) := by decide +kernel
theorem dJ6_numberOfTrailingZeros_0f7a4_47 : decode cJ6_numberOfTrailingZeros_0f7a4 47 = .ok (.iushr, 1) := by decide +kernel
theorem dJ6_numberOfTrailingZeros_0f7a4_48 : decode cJ6_numberOfTrailingZeros_0f7a4 48 = .ok (.istore_n 0, 1) := by decide +kernel
theorem dJ6_numberOfTrailingZeros_0f7a4_49 : decode cJ6_numberOfTrailingZeros_0f7a4 49 = .ok (.iload_n 0, 1) := by decide +kernel
theorem dJ6_numberOfTrailingZeros_0f7a4_50 : decode cJ6_numberOfTrailingZeros_0f7a4 50 = .ok (.bipush 16, 2) := by decide +kernel
theorem dJ6_numberOfTrailingZeros_0f7a4_52 : decode cJ6_numberOfTrailingZeros_0f7a4 52 = .ok (.if_icmp .le 10, 3) := by decide +kernel
theorem dJ6_numberOfTrailingZeros_0f7a4_55 : decode cJ6_numberOfTrailingZeros_0f7a4 55 = .ok (.iinc 1 4, 3) := by decide +kernel
theorem dJ6_numberOfTrailingZeros_0f7a4_58 : decode cJ6_numberOfTrailingZeros_0f7a4 58 = .ok (.iload_n 0, 1) := by decide +kernel
theorem dJ6_numberOfTrailingZeros_0f7a4_59 : decode cJ6_numberOfTrailingZeros_0f7a4 59 = .ok (.iconst 4, 1) := by decide +kernel
theorem dJ6_numberOfTrailingZeros_0f7a4_60 : decode cJ6_numberOfTrailingZeros_0f7a4 60 = .ok (.iushr, 1) := by decide +kernel
theorem dJ6_numberOfTrailingZeros_0f7a4_61 : decode cJ6_numberOfTrailingZeros_0f7a4 61 = .ok (.istore_n 0, 1) := by decide +kernel
theorem dJ6_numberOfTrailingZeros_0f7a4_62 : decode cJ6_numberOfTrailingZeros_0f7a4 62 = .ok (.iload_n 0, 1) := by decide +kernel
theorem dJ6_numberOfTrailingZeros_0f7a4_63 : decode cJ6_numberOfTrailingZeros_0f7a4 63 = .ok (.iconst 4, 1) := by decide +kernel
theorem dJ6_numberOfTrailingZeros_0f7a4_64 : decode cJ6_numberOfTrailingZeros_0f7a4 64 = .ok (.if_icmp .le 10, 3) := by decide +kernel
theorem dJ6_numberOfTrailingZeros_0f7a4_67 : decode cJ6_numberOfTrailingZeros_0f7a4 67 = .ok (.iinc 1 2, 3) := by decide +kernel
theorem dJ6_numberOfTrailingZeros_0f7a4_70 : decode cJ6_numberOfTrailingZeros_0f7a4 70 = .ok (.iload_n 0, 1) := by decide +kernel
theorem dJ6_numberOfTrailingZeros_0f7a4_71 : decode cJ6_numberOfTrailingZeros_0f7a4 71 = .ok (.iconst 2, 1) := by decide +kernel
theorem dJ6_numberOfTrailingZeros_0f7a4_72 : decode cJ6_numberOfTrailingZeros_0f7a4 72 = .ok (.iushr, 1) := by decide +kernel
theorem dJ6_numberOfTrailingZeros_0f7a4_73 : decode cJ6_numberOfTrailingZeros_0f7a4 73 = .ok (.istore_n 0, 1) := by decide +kernel
theorem dJ6_numberOfTrailingZeros_0f7a4_74 : decode cJ6_numberOfTrailingZeros_0f7a4 74 = .ok (.iload_n 1, 1) := by decide +kernel
theorem dJ6_numberOfTrailingZeros_0f7a4_75 : decode cJ6_numberOfTrailingZeros_0f7a4 75 = .ok (.iload_n 0, 1) := by decide +kernel
theorem dJ6_numberOfTrailingZeros_0f7a4_76 : decode cJ6_numberOfTrailingZeros_0f7a4 76 = .ok (.iconst 1, 1) := by decide +kernel
theorem dJ6_numberOfTrailingZeros_0f7a4_77 : decode cJ6_numberOfTrailingZeros_0f7a4 77 = .ok (.iushr, 1) := by decide +kernel
theorem dJ6_numberOfTrailingZeros_0f7a4_78 : decode cJ6_numberOfTrailingZeros_0f7a4 78 = .ok (.iadd, 1) := by decide +kernel
theorem dJ6_numberOfTrailingZeros_0f7a4_79 : decode cJ6_numberOfTrailingZeros_0f7a4 79 = .ok (.ireturn, 1) := by decide +kernel
theorem dJ6_bitCount_0f7a4_0 : decode cJ6_bitCount_0f7a4 0 = .ok (.iload_n 0, 1) := by decide +kernel
theorem dJ6_bitCount_0f7a4_1 : decode cJ6_bitCount_0f7a4 1 = .ok (.iload_n 0, 1) := by decide +kernel
theorem dJ6_bitCount_0f7a4_2 : decode cJ6_bitCount_0f7a4 2 = .ok (.iconst 1, 1) := by decide +kernel
theorem dJ6_bitCount_0f7a4_3 : decode cJ6_bitCount_0f7a4 3 = .ok (.iushr, 1) := by decide +kernel
theorem dJ6_bitCount_0f7a4_4 : decode cJ6_bitCount_0f7a4 4 = .ok (.ldc_w 265, 3) := by decide +kernel
theorem dJ6_bitCount_0f7a4_7 : decode cJ6_bitCount_0f7a4 7 = .ok (.iand, 1) := by decide +kernel
theorem dJ6_bitCount_0f7a4_8 : decode cJ6_bitCount_0f7a4 8 = .ok (.isub, 1) := by decide +kernel
theorem dJ6_bitCount_0f7a4_9 : decode cJ6_bitCount_0f7a4 9 = .ok (.istore_n 0, 1) := by decide +kernel
theorem dJ6_bitCount_0f7a4_10 : decode cJ6_bitCount_0f7a4 10 = .ok (.iload_n 0, 1) := by decide +kernel
theorem dJ6_bitCount_0f7a4_11 : decode cJ6_bitCount_0f7a4 11 = .ok (.ldc_w 266, 3) := by decide +kernel
theorem dJ6_bitCount_0f7a4_14 : decode cJ6_bitCount_0f7a4 14 = .ok (.iand, 1) := by decide +kernel
theorem dJ6_bitCount_0f7a4_15 : decode cJ6_bitCount_0f7a4 15 = .ok (.iload_n 0, 1) := by decide +kernel
theorem dJ6_bitCount_0f7a4_16 : decode cJ6_bitCount_0f7a4 16 = .ok (.iconst 2, 1) := by decide +kernel
theorem dJ6_bitCount_0f7a4_17 : decode cJ6_bitCount_0f7a4 17 = .ok (.iushr, 1) := by decide +kernel
theorem dJ6_bitCount_0f7a4_18 : decode cJ6_bitCount_0f7a4 18 = .ok (.ldc_w 266, 3) := by decide +kernel
theorem dJ6_bitCount_0f7a4_21 : decode cJ6_bitCount_0f7a4 21 = .ok (.iand, 1) := by decide +kernel
theorem dJ6_bitCount_0f7a4_22 : decode cJ6_bitCount_0f7a4 22 = .ok (.iadd, 1) := by decide +kernel
theorem dJ6_bitCount_0f7a4_23 : decode cJ6_bitCount_0f7a4 23 = .ok (.istore_n 0, 1) := by decide +kernel
theorem dJ6_bitCount_0f7a4_24 : decode cJ6_bitCount_0f7a4 24 = .ok (.iload_n 0, 1) := by decide +kernel
theorem dJ6_bitCount_0f7a4_25 : decode cJ6_bitCount_0f7a4 25 = .ok (.iload_n 0, 1) := by decide +kernel
theorem dJ6_bitCount_0f7a4_26 : decode cJ6_bitCount_0f7a4 26 = .ok (.iconst 4, 1) := by decide +kernel
theorem dJ6_bitCount_0f7a4_27 : decode cJ6_bitCount_0f7a4 27 = .ok (.iushr, 1) := by decide +kernel
theorem dJ6_bitCount_0f7a4_28 : decode cJ6_bitCount_0f7a4 28 = .ok (.iadd, 1) := by decide +kernel
theorem dJ6_bitCount_0f7a4_29 : decode cJ6_bitCount_0f7a4 29 = .ok (.ldc_w 267, 3) := by decide +kernel
theorem dJ6_bitCount_0f7a4_32 : decode cJ6_bitCount_0f7a4 32 = .ok (.iand, 1) := by decide +kernel
theorem dJ6_bitCount_0f7a4_33 : decode cJ6_bitCount_0f7a4 33 = .ok (.istore_n 0, 1) := by decide +kernel
theorem dJ6_bitCount_0f7a4_34 : decode cJ6_bitCount_0f7a4 34 = .ok (.iload_n 0, 1) := by decide +kernel
theorem dJ6_bitCount_0f7a4_35 : decode cJ6_bitCount_0f7a4 35 = .ok (.iload_n 0, 1) := by decide +kernel
theorem dJ6_bitCount_0f7a4_36 : decode cJ6_bitCount_0f7a4 36 = .ok (.bipush 8, 2) := by decide +kernel
theorem dJ6_bitCount_0f7a4_38 : decode cJ6_bitCount_0f7a4 38 = .ok (.iushr, 1) := by decide +kernel
theorem dJ6_bitCount_0f7a4_39 : decode cJ6_bitCount_0f7a4 39 = .ok (.iadd, 1) := by decide +kernel
theorem dJ6_bitCount_0f7a4_40 : decode cJ6_bitCount_0f7a4 40 = .ok (.istore_n 0, 1) := by decide +kernel
theorem dJ6_bitCount_0f7a4_41 : decode cJ6_bitCount_0f7a4 41 = .ok (.iload_n 0, 1) := by decide +kernel
theorem dJ6_bitCount_0f7a4_42 : decode cJ6_bitCount_0f7a4 42 = .ok (.iload_n 0, 1) := by decide +kernel
theorem dJ6_bitCount_0f7a4_43 : decode cJ6_bitCount_0f7a4 43 = .ok (.bipush 16, 2) := by decide +kernel
theorem dJ6_bitCount_0f7a4_45 : decode cJ6_bitCount_0f7a4 45 = .ok (.iushr, 1) := by decide +kernel
theorem dJ6_bitCount_0f7a4_46 : decode cJ6_bitCount_0f7a4 46 = .ok (.iadd, 1) := by decide +kernel
theorem dJ6_bitCount_0f7a4_47 : decode cJ6_bitCount_0f7a4 47 = .ok (.istore_n 0, 1) := by decide +kernel
theorem dJ6_bitCount_0f7a4_48 : decode cJ6_bitCount_0f7a4 48 = .ok (.iload_n 0, 1) := by decide +kernel
theorem dJ6_bitCount_0f7a4_49 : decode cJ6_bitCount_0f7a4 49 = .ok (.bipush 63, 2) := by decide +kernel
theorem dJ6_bitCount_0f7a4_51 : decode cJ6_bitCount_0f7a4 51 = .ok (.iand, 1) := by decide +kernel
theorem dJ6_bitCount_0f7a4_52 : decode cJ6_bitCount_0f7a4 52 = .ok (.ireturn, 1) := by decide +kernel
theorem dJ9_max_7cf53_0 : decode cJ9_max_7cf53 0 = .ok (.iload_n 0, 1) := by decide +kernel
theorem dJ9_max_7cf53_1 : decode cJ9_max_7cf53 1 = .ok (.iload_n 1, 1) := by decide +kernel
theorem dJ9_max_7cf53_2 : decode cJ9_max_7cf53 2 = .ok (.if_icmp .lt 7, 3) := by decide +kernel
theorem dJ9_max_7cf53_5 : decode cJ9_max_7cf53 5 = .ok (.iload_n 0, 1) := by decide +kernel
theorem dJ9_max_7cf53_6 : decode cJ9_max_7cf53 6 = .ok (.goto 4, 3) := by decide +kernel
theorem dJ9_max_7cf53_9 : decode cJ9_max_7cf53 9 = .ok (.iload_n 1, 1) := by decide +kernel
theorem dJ9_max_7cf53_10 : decode cJ9_max_7cf53 10 = .ok (.ireturn, 1) := by decide +kernel
theorem dJ9_min_7cf53_0 : decode cJ9_min_7cf53 0 = .ok (.iload_n 0, 1) := by decide +kernel
theorem dJ9_min_7cf53_1 : decode cJ9_min_7cf53 1 = .ok (.iload_n 1, 1) := by decide +kernel
theorem dJ9_min_7cf53_2 : decode cJ9_min_7cf53 2 = .ok (.if_icmp .gt 7, 3) := by decide +kernel
theorem dJ9_min_7cf53_5 : decode cJ9_min_7cf53 5 = .ok (.iload_n 0, 1) := by decide +kernel
theorem dJ9_min_7cf53_6 : decode cJ9_min_7cf53 6 = .ok (.goto 4, 3) := by decide +kernel
theorem dJ9_min_7cf53_9 : decode cJ9_min_7cf53 9 = .ok (.iload_n 1, 1) := by decide +kernel
theorem dJ9_min_7cf53_10 : decode cJ9_min_7cf53 10 = .ok (.ireturn, 1) := by decide +kernel
theorem dJ7_fill_53178_0 : decode cJ7_fill_53178 0 = .ok (.iconst 0, 1) := by decide +kernel
theorem dJ7_fill_53178_1 : decode cJ7_fill_53178 1 = .ok (.istore_n 2, 1) := by decide +kernel
theorem dJ7_fill_53178_2 : decode cJ7_fill_53178 2 = .ok (.aload_n 0, 1) := by decide +kernel
theorem dJ7_fill_53178_3 : decode cJ7_fill_53178 3 = .ok (.arraylength, 1) := by decide +kernel
theorem dJ7_fill_53178_4 : decode cJ7_fill_53178 4 = .ok (.istore_n 3, 1) := by decide +kernel
theorem dJ7_fill_53178_5 : decode cJ7_fill_53178 5 = .ok (.iload_n 2, 1) := by decide +kernel
theorem dJ7_fill_53178_6 : decode cJ7_fill_53178 6 = .ok (.iload_n 3, 1) := by decide +kernel
theorem dJ7_fill_53178_7 : decode cJ7_fill_53178 7 = .ok (.if_icmp .ge 13, 3) := by decide +kernel
theorem dJ7_fill_53178_10 : decode cJ7_fill_53178 10 = .ok (.aload_n 0, 1) := by decide +kernel
theorem dJ7_fill_53178_11 : decode cJ7_fill_53178 11 = .ok (.iload_n 2, 1) := by decide +kernel
theorem dJ7_fill_53178_12 : decode cJ7_fill_53178 12 = .ok (.iload_n 1, 1) := by decide +kernel
theorem dJ7_fill_53178_13 : decode cJ7_fill_53178 13 = .ok (.iastore, 1) := by decide +kernel
theorem dJ7_fill_53178_14 : decode cJ7_fill_53178 14 = .ok (.iinc 2 1, 3) := by decide +kernel
theorem dJ7_fill_53178_17 : decode cJ7_fill_53178 17 = .ok (.goto (-12), 3) := by decide +kernel
theorem dJ7_fill_53178_20 : decode cJ7_fill_53178 20 = .ok (.return_, 1) := by decide +kernel
abbrev vwCl : List vw_C := [(RX0, TX0, 2), (RX1, TX1, 3), (RX2, TX2, 8), (RX3, TX3, 9), (RX4, TX4, 7), (RX5, TX5, 5), (RX6, TX6, 5), (RX7, TX7, 7), (RX8, TX8, 12), (RX9, TX9, 17), (RX10, TX10, 10), (RX11, TX11, 71)]
