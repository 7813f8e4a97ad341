abbrev R_Characters : String := "SourceDesk$Characters"
def F_Characters : u_T := fun k => match k with
  | 0 => ("SourceDesk$Characters", "row", "[C", true)
  | _ => ("SourceDesk$Characters", "size", "I", false)
def t_Characters : Nat → FieldType := fun k => match k with
  | 0 => .array .char
  | _ => .int
theorem n_Characters : ∀ a, a < 2 → ∀ b, b < 2 → a ≠ b → (F_Characters a).2.1 ≠ (F_Characters b).2.1 := by decide +kernel
theorem t_Characters_ok : ∀ k, k < 2 → parseFieldDescriptor (F_Characters k).2.2.1 = some (t_Characters k) := by decide +kernel
theorem u_Characters : ∀ w ∈ u_ws R_Characters F_Characters 2, w ∈ lw_t := by decide +kernel
abbrev R_Draft : String := "SourceDesk$Draft"
def F_Draft : u_T := fun k => match k with
  | 0 => ("SourceDesk$Draft", "row", "LSourceDesk$Characters;", true)
  | 1 => ("SourceDesk$Draft", "made", "LSourceDesk$Listing;", true)
  | _ => ("SourceDesk$Draft", "at", "I", false)
def t_Draft : Nat → FieldType := fun k => match k with
  | 0 => .object "SourceDesk$Characters"
  | 1 => .object "SourceDesk$Listing"
  | _ => .int
theorem n_Draft : ∀ a, a < 3 → ∀ b, b < 3 → a ≠ b → (F_Draft a).2.1 ≠ (F_Draft b).2.1 := by decide +kernel
theorem t_Draft_ok : ∀ k, k < 3 → parseFieldDescriptor (F_Draft k).2.2.1 = some (t_Draft k) := by decide +kernel
theorem u_Draft : ∀ w ∈ u_ws R_Draft F_Draft 3, w ∈ lw_t := by decide +kernel
abbrev R_Listing : String := "SourceDesk$Listing"
def F_Listing : u_T := fun k => match k with
  | 0 => ("SourceDesk$Listing", "ops", "[I", true)
  | 1 => ("SourceDesk$Listing", "numbers", "[I", true)
  | 2 => ("SourceDesk$Listing", "heights", "[I", true)
  | _ => ("SourceDesk$Listing", "size", "I", false)
def t_Listing : Nat → FieldType := fun k => match k with
  | 0 => .array .int
  | 1 => .array .int
  | 2 => .array .int
  | _ => .int
theorem n_Listing : ∀ a, a < 4 → ∀ b, b < 4 → a ≠ b → (F_Listing a).2.1 ≠ (F_Listing b).2.1 := by decide +kernel
theorem t_Listing_ok : ∀ k, k < 4 → parseFieldDescriptor (F_Listing k).2.2.1 = some (t_Listing k) := by decide +kernel
theorem u_Listing : ∀ w ∈ u_ws R_Listing F_Listing 4, w ∈ lw_t := by decide +kernel
abbrev R_Machine : String := "SourceDesk$Machine"
def F_Machine : u_T := fun k => match k with
  | 0 => ("SourceDesk$Machine", "stack", "[I", true)
  | 1 => ("SourceDesk$Machine", "variables", "[I", true)
  | 2 => ("SourceDesk$Machine", "kept", "[I", true)
  | 3 => ("SourceDesk$Machine", "height", "I", false)
  | 4 => ("SourceDesk$Machine", "printed", "I", false)
  | 5 => ("SourceDesk$Machine", "done", "I", false)
  | _ => ("SourceDesk$Machine", "limit", "I", false)
def t_Machine : Nat → FieldType := fun k => match k with
  | 0 => .array .int
  | 1 => .array .int
  | 2 => .array .int
  | 3 => .int
  | 4 => .int
  | 5 => .int
  | _ => .int
theorem n_Machine : ∀ a, a < 7 → ∀ b, b < 7 → a ≠ b → (F_Machine a).2.1 ≠ (F_Machine b).2.1 := by decide +kernel
theorem t_Machine_ok : ∀ k, k < 7 → parseFieldDescriptor (F_Machine k).2.2.1 = some (t_Machine k) := by decide +kernel
theorem u_Machine : ∀ w ∈ u_ws R_Machine F_Machine 7, w ∈ lw_t := by decide +kernel
abbrev R_Tree : String := "SourceDesk$Tree"
def F_Tree : u_T := fun k => match k with
  | 0 => ("SourceDesk$Tree", "source", "LSourceDesk$Listing;", true)
  | 1 => ("SourceDesk$Tree", "kinds", "[I", true)
  | 2 => ("SourceDesk$Tree", "froms", "[I", true)
  | 3 => ("SourceDesk$Tree", "marks", "[I", true)
  | 4 => ("SourceDesk$Tree", "ends", "[I", true)
  | 5 => ("SourceDesk$Tree", "parts", "[I", true)
  | 6 => ("SourceDesk$Tree", "others", "[I", true)
  | 7 => ("SourceDesk$Tree", "followers", "[I", true)
  | 8 => ("SourceDesk$Tree", "begins", "[I", true)
  | 9 => ("SourceDesk$Tree", "size", "I", false)
  | 10 => ("SourceDesk$Tree", "depth", "I", false)
  | 11 => ("SourceDesk$Tree", "knot", "I", false)
  | _ => ("SourceDesk$Tree", "stands", "Z", false)
def t_Tree : Nat → FieldType := fun k => match k with
  | 0 => .object "SourceDesk$Listing"
  | 1 => .array .int
  | 2 => .array .int
  | 3 => .array .int
  | 4 => .array .int
  | 5 => .array .int
  | 6 => .array .int
  | 7 => .array .int
  | 8 => .array .int
  | 9 => .int
  | 10 => .int
  | 11 => .int
  | _ => .boolean
theorem n_Tree : ∀ a, a < 13 → ∀ b, b < 13 → a ≠ b → (F_Tree a).2.1 ≠ (F_Tree b).2.1 := by decide +kernel
theorem t_Tree_ok : ∀ k, k < 13 → parseFieldDescriptor (F_Tree k).2.2.1 = some (t_Tree k) := by decide +kernel
theorem u_Tree : ∀ w ∈ u_ws R_Tree F_Tree 13, w ∈ lw_t := by decide +kernel
abbrev R_S : String := "SourceDesk"
def F_S : u_T := fun k => match k with
  | 0 => ("SourceDesk", "listing", "LSourceDesk$Listing;", true)
  | 1 => ("SourceDesk", "draft", "LSourceDesk$Draft;", true)
  | 2 => ("SourceDesk", "written", "LSourceDesk$Characters;", true)
  | 3 => ("SourceDesk", "tree", "LSourceDesk$Tree;", true)
  | 4 => ("SourceDesk", "machine", "LSourceDesk$Machine;", true)
  | _ => ("SourceDesk", "trouble", "I", false)
def t_S : Nat → FieldType := fun k => match k with
  | 0 => .object "SourceDesk$Listing"
  | 1 => .object "SourceDesk$Draft"
  | 2 => .object "SourceDesk$Characters"
  | 3 => .object "SourceDesk$Tree"
  | 4 => .object "SourceDesk$Machine"
  | _ => .int
theorem n_S : ∀ a, a < 6 → ∀ b, b < 6 → a ≠ b → (F_S a).2.1 ≠ (F_S b).2.1 := by decide +kernel
theorem t_S_ok : ∀ k, k < 6 → parseFieldDescriptor (F_S k).2.2.1 = some (t_S k) := by decide +kernel
theorem u_S : ∀ w ∈ u_ws R_S F_S 6, w ∈ lw_t := by decide +kernel
abbrev R_M : String := "SourceDeskModel"
def F_M : u_T := fun k => match k with
  | 0 => ("SourceDeskModel", "op", "[I", true)
  | 1 => ("SourceDeskModel", "to", "[I", true)
  | 2 => ("SourceDeskModel", "newOp", "[I", true)
  | 3 => ("SourceDeskModel", "newTo", "[I", true)
  | 4 => ("SourceDeskModel", "draft", "[I", true)
  | 5 => ("SourceDeskModel", "text", "[I", true)
  | 6 => ("SourceDeskModel", "many", "I", false)
  | 7 => ("SourceDeskModel", "letters", "I", false)
  | 8 => ("SourceDeskModel", "length", "I", false)
  | 9 => ("SourceDeskModel", "where", "I", false)
  | 10 => ("SourceDeskModel", "tree", "Z", false)
  | 11 => ("SourceDeskModel", "todo", "[I", true)
  | 12 => ("SourceDeskModel", "with", "[I", true)
  | 13 => ("SourceDeskModel", "holes", "[I", true)
  | 14 => ("SourceDeskModel", "top", "I", false)
  | 15 => ("SourceDeskModel", "hole", "I", false)
  | 16 => ("SourceDeskModel", "at", "I", false)
  | 17 => ("SourceDeskModel", "made", "I", false)
  | 18 => ("SourceDeskModel", "variable", "[I", true)
  | 19 => ("SourceDeskModel", "stack", "[I", true)
  | 20 => ("SourceDeskModel", "signs", "[I", true)
  | 21 => ("SourceDeskModel", "output", "[I", true)
  | 22 => ("SourceDeskModel", "blocks", "[I", true)
  | 23 => ("SourceDeskModel", "high", "I", false)
  | 24 => ("SourceDeskModel", "signsHigh", "I", false)
  | 25 => ("SourceDeskModel", "printed", "I", false)
  | 26 => ("SourceDeskModel", "done", "I", false)
  | _ => ("SourceDeskModel", "value", "I", false)
def t_M : Nat → FieldType := fun k => match k with
  | 0 => .array .int
  | 1 => .array .int
  | 2 => .array .int
  | 3 => .array .int
  | 4 => .array .int
  | 5 => .array .int
  | 6 => .int
  | 7 => .int
  | 8 => .int
  | 9 => .int
  | 10 => .boolean
  | 11 => .array .int
  | 12 => .array .int
  | 13 => .array .int
  | 14 => .int
  | 15 => .int
  | 16 => .int
  | 17 => .int
  | 18 => .array .int
  | 19 => .array .int
  | 20 => .array .int
  | 21 => .array .int
  | 22 => .array .int
  | 23 => .int
  | 24 => .int
  | 25 => .int
  | 26 => .int
  | _ => .int
theorem n_M : ∀ a, a < 28 → ∀ b, b < 28 → a ≠ b → (F_M a).2.1 ≠ (F_M b).2.1 := by decide +kernel
theorem t_M_ok : ∀ k, k < 28 → parseFieldDescriptor (F_M k).2.2.1 = some (t_M k) := by decide +kernel
theorem u_M : ∀ w ∈ u_ws R_M F_M 28, w ∈ lw_t := by decide +kernel
abbrev R_Scribe : String := "SourceDesk$Scribe"
def F_Scribe : u_T := fun k => match k with
  | _ => ("", "", "", false)
def t_Scribe : Nat → FieldType := fun k => match k with
  | _ => .int
theorem n_Scribe : ∀ a, a < 0 → ∀ b, b < 0 → a ≠ b → (F_Scribe a).2.1 ≠ (F_Scribe b).2.1 := by decide +kernel
theorem t_Scribe_ok : ∀ k, k < 0 → parseFieldDescriptor (F_Scribe k).2.2.1 = some (t_Scribe k) := by decide +kernel
theorem u_Scribe : ∀ w ∈ u_ws R_Scribe F_Scribe 0, w ∈ lw_t := by decide +kernel
abbrev R_Walker : String := "SourceDesk$Walker"
def F_Walker : u_T := fun k => match k with
  | _ => ("", "", "", false)
def t_Walker : Nat → FieldType := fun k => match k with
  | _ => .int
theorem n_Walker : ∀ a, a < 0 → ∀ b, b < 0 → a ≠ b → (F_Walker a).2.1 ≠ (F_Walker b).2.1 := by decide +kernel
theorem t_Walker_ok : ∀ k, k < 0 → parseFieldDescriptor (F_Walker k).2.2.1 = some (t_Walker k) := by decide +kernel
theorem u_Walker : ∀ w ∈ u_ws R_Walker F_Walker 0, w ∈ lw_t := by decide +kernel
abbrev vwCl : List vw_C := [(R_Characters, F_Characters, 2), (R_Draft, F_Draft, 3), (R_Listing, F_Listing, 4), (R_Machine, F_Machine, 7), (R_Tree, F_Tree, 13), (R_S, F_S, 6), (R_M, F_M, 28)]
abbrev k_S_init : ByteArray := prog_1_method_1_code
abbrev y_S_init : MethodName := ⟨"SourceDesk", "<init>", "()V"⟩
abbrev w_S_init : List Cond := .code y_S_init k_S_init 1 (none : Option FieldType) :: lw_t
abbrev k_S_put : ByteArray := prog_1_method_2_code
abbrev y_S_put : MethodName := ⟨"SourceDesk", "put", "(II)I"⟩
abbrev w_S_put : List Cond := .code y_S_put k_S_put 3 (some FieldType.int) :: lw_t
abbrev k_S_change : ByteArray := prog_1_method_3_code
abbrev y_S_change : MethodName := ⟨"SourceDesk", "change", "(III)Z"⟩
abbrev w_S_change : List Cond := .code y_S_change k_S_change 4 (some FieldType.boolean) :: lw_t
abbrev k_S_clear : ByteArray := prog_1_method_4_code
abbrev y_S_clear : MethodName := ⟨"SourceDesk", "clear", "(I)I"⟩
abbrev w_S_clear : List Cond := .code y_S_clear k_S_clear 3 (some FieldType.int) :: lw_t
abbrev k_S_code : ByteArray := prog_1_method_5_code
abbrev y_S_code : MethodName := ⟨"SourceDesk", "code", "(II)I"⟩
abbrev w_S_code : List Cond := .code y_S_code k_S_code 3 (some FieldType.int) :: lw_t
abbrev k_S_verify : ByteArray := prog_1_method_6_code
abbrev y_S_verify : MethodName := ⟨"SourceDesk", "verify", "()I"⟩
abbrev w_S_verify : List Cond := .code y_S_verify k_S_verify 1 (some FieldType.int) :: lw_t
abbrev k_S_lift : ByteArray := prog_1_method_7_code
abbrev y_S_lift : MethodName := ⟨"SourceDesk", "lift", "()I"⟩
abbrev w_S_lift : List Cond := .code y_S_lift k_S_lift 1 (some FieldType.int) :: lw_t
abbrev k_S_text : ByteArray := prog_1_method_8_code
abbrev y_S_text : MethodName := ⟨"SourceDesk", "text", "(I)I"⟩
abbrev w_S_text : List Cond := .code y_S_text k_S_text 2 (some FieldType.int) :: lw_t
abbrev k_S_where : ByteArray := prog_1_method_9_code
abbrev y_S_where : MethodName := ⟨"SourceDesk", "where", "()I"⟩
abbrev w_S_where : List Cond := .code y_S_where k_S_where 1 (some FieldType.int) :: lw_t
abbrev k_S_letter : ByteArray := prog_1_method_10_code
abbrev y_S_letter : MethodName := ⟨"SourceDesk", "letter", "(I)I"⟩
abbrev w_S_letter : List Cond := .code y_S_letter k_S_letter 2 (some FieldType.int) :: lw_t
abbrev k_S_copy : ByteArray := prog_1_method_11_code
abbrev y_S_copy : MethodName := ⟨"SourceDesk", "copy", "()I"⟩
abbrev w_S_copy : List Cond := .code y_S_copy k_S_copy 1 (some FieldType.int) :: lw_t
abbrev k_S_read : ByteArray := prog_1_method_12_code
abbrev y_S_read : MethodName := ⟨"SourceDesk", "read", "()I"⟩
abbrev w_S_read : List Cond := .code y_S_read k_S_read 1 (some FieldType.int) :: lw_t
abbrev k_S_run : ByteArray := prog_1_method_13_code
abbrev y_S_run : MethodName := ⟨"SourceDesk", "run", "(II)I"⟩
abbrev w_S_run : List Cond := .code y_S_run k_S_run 3 (some FieldType.int) :: lw_t
abbrev k_S_walk : ByteArray := prog_1_method_14_code
abbrev y_S_walk : MethodName := ⟨"SourceDesk", "walk", "(II)I"⟩
abbrev w_S_walk : List Cond := .code y_S_walk k_S_walk 3 (some FieldType.int) :: lw_t
abbrev k_S_output : ByteArray := prog_1_method_15_code
abbrev y_S_output : MethodName := ⟨"SourceDesk", "output", "(I)I"⟩
abbrev w_S_output : List Cond := .code y_S_output k_S_output 2 (some FieldType.int) :: lw_t
abbrev k_S_count : ByteArray := prog_1_method_16_code
abbrev y_S_count : MethodName := ⟨"SourceDesk", "count", "(I)I"⟩
abbrev w_S_count : List Cond := .code y_S_count k_S_count 2 (some FieldType.int) :: lw_t
abbrev k_M_init : ByteArray := prog_10_method_1_code
abbrev y_M_init : MethodName := ⟨"SourceDeskModel", "<init>", "()V"⟩
abbrev w_M_init : List Cond := .code y_M_init k_M_init 1 (none : Option FieldType) :: lw_t
abbrev k_M_in : ByteArray := prog_10_method_2_code
abbrev y_M_in : MethodName := ⟨"SourceDeskModel", "in", "(III)Z"⟩
abbrev w_M_in : List Cond := .code y_M_in k_M_in 3 (some FieldType.boolean) :: lw_t
abbrev k_M_isGood : ByteArray := prog_10_method_3_code
abbrev y_M_isGood : MethodName := ⟨"SourceDeskModel", "isGood", "(II)Z"⟩
abbrev w_M_isGood : List Cond := .code y_M_isGood k_M_isGood 2 (some FieldType.boolean) :: lw_t
abbrev k_M_has : ByteArray := prog_10_method_4_code
abbrev y_M_has : MethodName := ⟨"SourceDeskModel", "has", "(I)Z"⟩
abbrev w_M_has : List Cond := .code y_M_has k_M_has 1 (some FieldType.boolean) :: lw_t
abbrev k_M_put : ByteArray := prog_10_method_5_code
abbrev y_M_put : MethodName := ⟨"SourceDeskModel", "put", "(II)I"⟩
abbrev w_M_put : List Cond := .code y_M_put k_M_put 3 (some FieldType.int) :: lw_t
abbrev k_M_change : ByteArray := prog_10_method_6_code
abbrev y_M_change : MethodName := ⟨"SourceDeskModel", "change", "(III)Z"⟩
abbrev w_M_change : List Cond := .code y_M_change k_M_change 4 (some FieldType.boolean) :: lw_t
abbrev k_M_clear : ByteArray := prog_10_method_7_code
abbrev y_M_clear : MethodName := ⟨"SourceDeskModel", "clear", "(I)I"⟩
abbrev w_M_clear : List Cond := .code y_M_clear k_M_clear 3 (some FieldType.int) :: lw_t
abbrev k_M_grows : ByteArray := prog_10_method_8_code
abbrev y_M_grows : MethodName := ⟨"SourceDeskModel", "grows", "(I)I"⟩
abbrev w_M_grows : List Cond := .code y_M_grows k_M_grows 1 (some FieldType.int) :: lw_t
abbrev k_M_height : ByteArray := prog_10_method_9_code
abbrev y_M_height : MethodName := ⟨"SourceDeskModel", "height", "(I)I"⟩
abbrev w_M_height : List Cond := .code y_M_height k_M_height 4 (some FieldType.int) :: lw_t
abbrev k_M_code : ByteArray := prog_10_method_10_code
abbrev y_M_code : MethodName := ⟨"SourceDeskModel", "code", "(II)I"⟩
abbrev w_M_code : List Cond := .code y_M_code k_M_code 3 (some FieldType.int) :: lw_t
abbrev k_M_isWrong : ByteArray := prog_10_method_11_code
abbrev y_M_isWrong : MethodName := ⟨"SourceDeskModel", "isWrong", "(I)Z"⟩
abbrev w_M_isWrong : List Cond := .code y_M_isWrong k_M_isWrong 4 (some FieldType.boolean) :: lw_t
abbrev k_M_verify : ByteArray := prog_10_method_12_code
abbrev y_M_verify : MethodName := ⟨"SourceDeskModel", "verify", "()I"⟩
abbrev w_M_verify : List Cond := .code y_M_verify k_M_verify 2 (some FieldType.int) :: lw_t
abbrev k_M_write : ByteArray := prog_10_method_13_code
abbrev y_M_write : MethodName := ⟨"SourceDeskModel", "write", "(I)V"⟩
abbrev w_M_write : List Cond := .code y_M_write k_M_write 2 (none : Option FieldType) :: lw_t
abbrev k_M_push : ByteArray := prog_10_method_14_code
abbrev y_M_push : MethodName := ⟨"SourceDeskModel", "push", "(II)V"⟩
abbrev w_M_push : List Cond := .code y_M_push k_M_push 3 (none : Option FieldType) :: lw_t
abbrev k_M_startOf : ByteArray := prog_10_method_15_code
abbrev y_M_startOf : MethodName := ⟨"SourceDeskModel", "startOf", "(I)I"⟩
abbrev w_M_startOf : List Cond := .code y_M_startOf k_M_startOf 4 (some FieldType.int) :: lw_t
abbrev k_M_tell : ByteArray := prog_10_method_16_code
abbrev y_M_tell : MethodName := ⟨"SourceDeskModel", "tell", "(I)V"⟩
abbrev w_M_tell : List Cond := .code y_M_tell k_M_tell 4 (none : Option FieldType) :: lw_t
abbrev k_M_range : ByteArray := prog_10_method_17_code
abbrev y_M_range : MethodName := ⟨"SourceDeskModel", "range", "(II)Z"⟩
abbrev w_M_range : List Cond := .code y_M_range k_M_range 8 (some FieldType.boolean) :: lw_t
abbrev k_M_lift : ByteArray := prog_10_method_18_code
abbrev y_M_lift : MethodName := ⟨"SourceDeskModel", "lift", "()I"⟩
abbrev w_M_lift : List Cond := .code y_M_lift k_M_lift 2 (some FieldType.int) :: lw_t
abbrev k_M_text : ByteArray := prog_10_method_19_code
abbrev y_M_text : MethodName := ⟨"SourceDeskModel", "text", "(I)I"⟩
abbrev w_M_text : List Cond := .code y_M_text k_M_text 2 (some FieldType.int) :: lw_t
abbrev k_M_where : ByteArray := prog_10_method_20_code
abbrev y_M_where : MethodName := ⟨"SourceDeskModel", "where", "()I"⟩
abbrev w_M_where : List Cond := .code y_M_where k_M_where 1 (some FieldType.int) :: lw_t
abbrev k_M_letter : ByteArray := prog_10_method_21_code
abbrev y_M_letter : MethodName := ⟨"SourceDeskModel", "letter", "(I)I"⟩
abbrev w_M_letter : List Cond := .code y_M_letter k_M_letter 2 (some FieldType.int) :: lw_t
abbrev k_M_copy : ByteArray := prog_10_method_22_code
abbrev y_M_copy : MethodName := ⟨"SourceDeskModel", "copy", "()I"⟩
abbrev w_M_copy : List Cond := .code y_M_copy k_M_copy 2 (some FieldType.int) :: lw_t
abbrev k_M_emit : ByteArray := prog_10_method_23_code
abbrev y_M_emit : MethodName := ⟨"SourceDeskModel", "emit", "(II)V"⟩
abbrev w_M_emit : List Cond := .code y_M_emit k_M_emit 3 (none : Option FieldType) :: lw_t
abbrev k_M_next : ByteArray := prog_10_method_24_code
abbrev y_M_next : MethodName := ⟨"SourceDeskModel", "next", "()I"⟩
abbrev w_M_next : List Cond := .code y_M_next k_M_next 1 (some FieldType.int) :: lw_t
abbrev k_M_isDigit : ByteArray := prog_10_method_25_code
abbrev y_M_isDigit : MethodName := ⟨"SourceDeskModel", "isDigit", "(I)Z"⟩
abbrev w_M_isDigit : List Cond := .code y_M_isDigit k_M_isDigit 1 (some FieldType.boolean) :: lw_t
abbrev k_M_isLetter : ByteArray := prog_10_method_26_code
abbrev y_M_isLetter : MethodName := ⟨"SourceDeskModel", "isLetter", "(I)Z"⟩
abbrev w_M_isLetter : List Cond := .code y_M_isLetter k_M_isLetter 1 (some FieldType.boolean) :: lw_t
abbrev k_M_list : ByteArray := prog_10_method_27_code
abbrev y_M_list : MethodName := ⟨"SourceDeskModel", "list", "(I)Z"⟩
abbrev w_M_list : List Cond := .code y_M_list k_M_list 3 (some FieldType.boolean) :: lw_t
abbrev k_M_expression : ByteArray := prog_10_method_28_code
abbrev y_M_expression : MethodName := ⟨"SourceDeskModel", "expression", "(I)Z"⟩
abbrev w_M_expression : List Cond := .code y_M_expression k_M_expression 4 (some FieldType.boolean) :: lw_t
abbrev k_M_operator : ByteArray := prog_10_method_29_code
abbrev y_M_operator : MethodName := ⟨"SourceDeskModel", "operator", "(I)Z"⟩
abbrev w_M_operator : List Cond := .code y_M_operator k_M_operator 4 (some FieldType.boolean) :: lw_t
abbrev k_M_goOn : ByteArray := prog_10_method_30_code
abbrev y_M_goOn : MethodName := ⟨"SourceDeskModel", "goOn", "(II)Z"⟩
abbrev w_M_goOn : List Cond := .code y_M_goOn k_M_goOn 3 (some FieldType.boolean) :: lw_t
abbrev k_M_choice : ByteArray := prog_10_method_31_code
abbrev y_M_choice : MethodName := ⟨"SourceDeskModel", "choice", "(I)V"⟩
abbrev w_M_choice : List Cond := .code y_M_choice k_M_choice 2 (none : Option FieldType) :: lw_t
abbrev k_M_fill : ByteArray := prog_10_method_32_code
abbrev y_M_fill : MethodName := ⟨"SourceDeskModel", "fill", "()V"⟩
abbrev w_M_fill : List Cond := .code y_M_fill k_M_fill 1 (none : Option FieldType) :: lw_t
abbrev k_M_read : ByteArray := prog_10_method_33_code
abbrev y_M_read : MethodName := ⟨"SourceDeskModel", "read", "()I"⟩
abbrev w_M_read : List Cond := .code y_M_read k_M_read 4 (some FieldType.int) :: lw_t
abbrev k_M_start : ByteArray := prog_10_method_34_code
abbrev y_M_start : MethodName := ⟨"SourceDeskModel", "start", "(I)V"⟩
abbrev w_M_start : List Cond := .code y_M_start k_M_start 3 (none : Option FieldType) :: lw_t
abbrev k_M_come : ByteArray := prog_10_method_35_code
abbrev y_M_come : MethodName := ⟨"SourceDeskModel", "come", "(I)V"⟩
abbrev w_M_come : List Cond := .code y_M_come k_M_come 2 (none : Option FieldType) :: lw_t
abbrev k_M_take : ByteArray := prog_10_method_36_code
abbrev y_M_take : MethodName := ⟨"SourceDeskModel", "take", "()I"⟩
abbrev w_M_take : List Cond := .code y_M_take k_M_take 1 (some FieldType.int) :: lw_t
abbrev k_M_print : ByteArray := prog_10_method_37_code
abbrev y_M_print : MethodName := ⟨"SourceDeskModel", "print", "(I)V"⟩
abbrev w_M_print : List Cond := .code y_M_print k_M_print 2 (none : Option FieldType) :: lw_t
abbrev k_M_both : ByteArray := prog_10_method_38_code
abbrev y_M_both : MethodName := ⟨"SourceDeskModel", "both", "(III)I"⟩
abbrev w_M_both : List Cond := .code y_M_both k_M_both 3 (some FieldType.int) :: lw_t
abbrev k_M_run : ByteArray := prog_10_method_39_code
abbrev y_M_run : MethodName := ⟨"SourceDeskModel", "run", "(II)I"⟩
abbrev w_M_run : List Cond := .code y_M_run k_M_run 8 (some FieldType.int) :: lw_t
abbrev k_M_work : ByteArray := prog_10_method_40_code
abbrev y_M_work : MethodName := ⟨"SourceDeskModel", "work", "(I)I"⟩
abbrev w_M_work : List Cond := .code y_M_work k_M_work 7 (some FieldType.int) :: lw_t
abbrev k_M_behind : ByteArray := prog_10_method_41_code
abbrev y_M_behind : MethodName := ⟨"SourceDeskModel", "behind", "(I)I"⟩
abbrev w_M_behind : List Cond := .code y_M_behind k_M_behind 4 (some FieldType.int) :: lw_t
abbrev k_M_walk : ByteArray := prog_10_method_42_code
abbrev y_M_walk : MethodName := ⟨"SourceDeskModel", "walk", "(II)I"⟩
abbrev w_M_walk : List Cond := .code y_M_walk k_M_walk 7 (some FieldType.int) :: lw_t
abbrev k_M_output : ByteArray := prog_10_method_43_code
abbrev y_M_output : MethodName := ⟨"SourceDeskModel", "output", "(I)I"⟩
abbrev w_M_output : List Cond := .code y_M_output k_M_output 2 (some FieldType.int) :: lw_t
abbrev k_M_tally : ByteArray := prog_10_method_44_code
abbrev y_M_tally : MethodName := ⟨"SourceDeskModel", "tally", "(I)I"⟩
abbrev w_M_tally : List Cond := .code y_M_tally k_M_tally 11 (some FieldType.int) :: lw_t
abbrev k_M_count : ByteArray := prog_10_method_45_code
abbrev y_M_count : MethodName := ⟨"SourceDeskModel", "count", "(I)I"⟩
abbrev w_M_count : List Cond := .code y_M_count k_M_count 2 (some FieldType.int) :: lw_t
abbrev k_Characters_init : ByteArray := prog_2_method_1_code
abbrev y_Characters_init : MethodName := ⟨"SourceDesk$Characters", "<init>", "(I)V"⟩
abbrev w_Characters_init : List Cond := .code y_Characters_init k_Characters_init 2 (none : Option FieldType) :: lw_t
abbrev k_Characters_size : ByteArray := prog_2_method_2_code
abbrev y_Characters_size : MethodName := ⟨"SourceDesk$Characters", "size", "()I"⟩
abbrev w_Characters_size : List Cond := .code y_Characters_size k_Characters_size 1 (some FieldType.int) :: lw_t
abbrev k_Characters_at : ByteArray := prog_2_method_3_code
abbrev y_Characters_at : MethodName := ⟨"SourceDesk$Characters", "at", "(I)I"⟩
abbrev w_Characters_at : List Cond := .code y_Characters_at k_Characters_at 2 (some FieldType.int) :: lw_t
abbrev k_Characters_add : ByteArray := prog_2_method_4_code
abbrev y_Characters_add : MethodName := ⟨"SourceDesk$Characters", "add", "(I)Z"⟩
abbrev w_Characters_add : List Cond := .code y_Characters_add k_Characters_add 2 (some FieldType.boolean) :: lw_t
abbrev k_Characters_drop : ByteArray := prog_2_method_5_code
abbrev y_Characters_drop : MethodName := ⟨"SourceDesk$Characters", "drop", "()V"⟩
abbrev w_Characters_drop : List Cond := .code y_Characters_drop k_Characters_drop 1 (none : Option FieldType) :: lw_t
abbrev k_Characters_become : ByteArray := prog_2_method_6_code
abbrev y_Characters_become : MethodName := ⟨"SourceDesk$Characters", "become", "(LSourceDesk$Characters;)V"⟩
abbrev w_Characters_become : List Cond := .code y_Characters_become k_Characters_become 2 (none : Option FieldType) :: lw_t
abbrev k_Draft_init : ByteArray := prog_3_method_1_code
abbrev y_Draft_init : MethodName := ⟨"SourceDesk$Draft", "<init>", "()V"⟩
abbrev w_Draft_init : List Cond := .code y_Draft_init k_Draft_init 1 (none : Option FieldType) :: lw_t
abbrev k_Draft_row : ByteArray := prog_3_method_2_code
abbrev y_Draft_row : MethodName := ⟨"SourceDesk$Draft", "row", "()LSourceDesk$Characters;"⟩
abbrev w_Draft_row : List Cond := .code y_Draft_row k_Draft_row 1 (some (FieldType.object "SourceDesk$Characters")) :: lw_t
abbrev k_Draft_made : ByteArray := prog_3_method_3_code
abbrev y_Draft_made : MethodName := ⟨"SourceDesk$Draft", "made", "()LSourceDesk$Listing;"⟩
abbrev w_Draft_made : List Cond := .code y_Draft_made k_Draft_made 1 (some (FieldType.object "SourceDesk$Listing")) :: lw_t
abbrev k_Draft_translate : ByteArray := prog_3_method_4_code
abbrev y_Draft_translate : MethodName := ⟨"SourceDesk$Draft", "translate", "()I"⟩
abbrev w_Draft_translate : List Cond := .code y_Draft_translate k_Draft_translate 2 (some FieldType.int) :: lw_t
abbrev k_Draft_takeStatements : ByteArray := prog_3_method_5_code
abbrev y_Draft_takeStatements : MethodName := ⟨"SourceDesk$Draft", "takeStatements", "(I)Z"⟩
abbrev w_Draft_takeStatements : List Cond := .code y_Draft_takeStatements k_Draft_takeStatements 3 (some FieldType.boolean) :: lw_t
abbrev k_Draft_takeStatement : ByteArray := prog_3_method_6_code
abbrev y_Draft_takeStatement : MethodName := ⟨"SourceDesk$Draft", "takeStatement", "(I)Z"⟩
abbrev w_Draft_takeStatement : List Cond := .code y_Draft_takeStatement k_Draft_takeStatement 3 (some FieldType.boolean) :: lw_t
abbrev k_Draft_takeStore : ByteArray := prog_3_method_7_code
abbrev y_Draft_takeStore : MethodName := ⟨"SourceDesk$Draft", "takeStore", "(I)Z"⟩
abbrev w_Draft_takeStore : List Cond := .code y_Draft_takeStore k_Draft_takeStore 2 (some FieldType.boolean) :: lw_t
abbrev k_Draft_takePrint : ByteArray := prog_3_method_8_code
abbrev y_Draft_takePrint : MethodName := ⟨"SourceDesk$Draft", "takePrint", "()Z"⟩
abbrev w_Draft_takePrint : List Cond := .code y_Draft_takePrint k_Draft_takePrint 1 (some FieldType.boolean) :: lw_t
abbrev k_Draft_takeWhile : ByteArray := prog_3_method_9_code
abbrev y_Draft_takeWhile : MethodName := ⟨"SourceDesk$Draft", "takeWhile", "(I)Z"⟩
abbrev w_Draft_takeWhile : List Cond := .code y_Draft_takeWhile k_Draft_takeWhile 4 (some FieldType.boolean) :: lw_t
abbrev k_Draft_takeIf : ByteArray := prog_3_method_10_code
abbrev y_Draft_takeIf : MethodName := ⟨"SourceDesk$Draft", "takeIf", "(I)Z"⟩
abbrev w_Draft_takeIf : List Cond := .code y_Draft_takeIf k_Draft_takeIf 4 (some FieldType.boolean) :: lw_t
abbrev k_Draft_takeGuarded : ByteArray := prog_3_method_11_code
abbrev y_Draft_takeGuarded : MethodName := ⟨"SourceDesk$Draft", "takeGuarded", "(I)I"⟩
abbrev w_Draft_takeGuarded : List Cond := .code y_Draft_takeGuarded k_Draft_takeGuarded 3 (some FieldType.int) :: lw_t
abbrev k_Draft_takeBlock : ByteArray := prog_3_method_12_code
abbrev y_Draft_takeBlock : MethodName := ⟨"SourceDesk$Draft", "takeBlock", "(I)Z"⟩
abbrev w_Draft_takeBlock : List Cond := .code y_Draft_takeBlock k_Draft_takeBlock 2 (some FieldType.boolean) :: lw_t
abbrev k_Draft_takeExpression : ByteArray := prog_3_method_13_code
abbrev y_Draft_takeExpression : MethodName := ⟨"SourceDesk$Draft", "takeExpression", "(I)Z"⟩
abbrev w_Draft_takeExpression : List Cond := .code y_Draft_takeExpression k_Draft_takeExpression 3 (some FieldType.boolean) :: lw_t
abbrev k_Draft_takeNot : ByteArray := prog_3_method_14_code
abbrev y_Draft_takeNot : MethodName := ⟨"SourceDesk$Draft", "takeNot", "(I)Z"⟩
abbrev w_Draft_takeNot : List Cond := .code y_Draft_takeNot k_Draft_takeNot 2 (some FieldType.boolean) :: lw_t
abbrev k_Draft_takePair : ByteArray := prog_3_method_15_code
abbrev y_Draft_takePair : MethodName := ⟨"SourceDesk$Draft", "takePair", "(I)Z"⟩
abbrev w_Draft_takePair : List Cond := .code y_Draft_takePair k_Draft_takePair 3 (some FieldType.boolean) :: lw_t
abbrev k_Draft_takeNumber : ByteArray := prog_3_method_16_code
abbrev y_Draft_takeNumber : MethodName := ⟨"SourceDesk$Draft", "takeNumber", "()V"⟩
abbrev w_Draft_takeNumber : List Cond := .code y_Draft_takeNumber k_Draft_takeNumber 2 (none : Option FieldType) :: lw_t
abbrev k_Draft_take : ByteArray := prog_3_method_17_code
abbrev y_Draft_take : MethodName := ⟨"SourceDesk$Draft", "take", "(C)Z"⟩
abbrev w_Draft_take : List Cond := .code y_Draft_take k_Draft_take 2 (some FieldType.boolean) :: lw_t
abbrev k_Draft_isDigit : ByteArray := prog_3_method_18_code
abbrev y_Draft_isDigit : MethodName := ⟨"SourceDesk$Draft", "isDigit", "(I)Z"⟩
abbrev w_Draft_isDigit : List Cond := .code y_Draft_isDigit k_Draft_isDigit 1 (some FieldType.boolean) :: lw_t
abbrev k_Draft_isVariable : ByteArray := prog_3_method_19_code
abbrev y_Draft_isVariable : MethodName := ⟨"SourceDesk$Draft", "isVariable", "(I)Z"⟩
abbrev w_Draft_isVariable : List Cond := .code y_Draft_isVariable k_Draft_isVariable 1 (some FieldType.boolean) :: lw_t
abbrev k_Draft_opOfSign : ByteArray := prog_3_method_20_code
abbrev y_Draft_opOfSign : MethodName := ⟨"SourceDesk$Draft", "opOfSign", "(I)I"⟩
abbrev w_Draft_opOfSign : List Cond := .code y_Draft_opOfSign k_Draft_opOfSign 1 (some FieldType.int) :: lw_t
abbrev k_Listing_init : ByteArray := prog_4_method_1_code
abbrev y_Listing_init : MethodName := ⟨"SourceDesk$Listing", "<init>", "(I)V"⟩
abbrev w_Listing_init : List Cond := .code y_Listing_init k_Listing_init 2 (none : Option FieldType) :: lw_t
abbrev k_Listing_fits : ByteArray := prog_4_method_2_code
abbrev y_Listing_fits : MethodName := ⟨"SourceDesk$Listing", "fits", "(II)Z"⟩
abbrev w_Listing_fits : List Cond := .code y_Listing_fits k_Listing_fits 3 (some FieldType.boolean) :: lw_t
abbrev k_Listing_greatestNumber : ByteArray := prog_4_method_3_code
abbrev y_Listing_greatestNumber : MethodName := ⟨"SourceDesk$Listing", "greatestNumber", "(I)I"⟩
abbrev w_Listing_greatestNumber : List Cond := .code y_Listing_greatestNumber k_Listing_greatestNumber 1 (some FieldType.int) :: lw_t
abbrev k_Listing_rise : ByteArray := prog_4_method_4_code
abbrev y_Listing_rise : MethodName := ⟨"SourceDesk$Listing", "rise", "(I)I"⟩
abbrev w_Listing_rise : List Cond := .code y_Listing_rise k_Listing_rise 1 (some FieldType.int) :: lw_t
abbrev k_Listing_size : ByteArray := prog_4_method_5_code
abbrev y_Listing_size : MethodName := ⟨"SourceDesk$Listing", "size", "()I"⟩
abbrev w_Listing_size : List Cond := .code y_Listing_size k_Listing_size 1 (some FieldType.int) :: lw_t
abbrev k_Listing_holds : ByteArray := prog_4_method_6_code
abbrev y_Listing_holds : MethodName := ⟨"SourceDesk$Listing", "holds", "(I)Z"⟩
abbrev w_Listing_holds : List Cond := .code y_Listing_holds k_Listing_holds 2 (some FieldType.boolean) :: lw_t
abbrev k_Listing_op : ByteArray := prog_4_method_7_code
abbrev y_Listing_op : MethodName := ⟨"SourceDesk$Listing", "op", "(I)I"⟩
abbrev w_Listing_op : List Cond := .code y_Listing_op k_Listing_op 2 (some FieldType.int) :: lw_t
abbrev k_Listing_number : ByteArray := prog_4_method_8_code
abbrev y_Listing_number : MethodName := ⟨"SourceDesk$Listing", "number", "(I)I"⟩
abbrev w_Listing_number : List Cond := .code y_Listing_number k_Listing_number 2 (some FieldType.int) :: lw_t
abbrev k_Listing_heightBefore : ByteArray := prog_4_method_9_code
abbrev y_Listing_heightBefore : MethodName := ⟨"SourceDesk$Listing", "heightBefore", "(I)I"⟩
abbrev w_Listing_heightBefore : List Cond := .code y_Listing_heightBefore k_Listing_heightBefore 2 (some FieldType.int) :: lw_t
abbrev k_Listing_add : ByteArray := prog_4_method_10_code
abbrev y_Listing_add : MethodName := ⟨"SourceDesk$Listing", "add", "(II)Z"⟩
abbrev w_Listing_add : List Cond := .code y_Listing_add k_Listing_add 3 (some FieldType.boolean) :: lw_t
abbrev k_Listing_set : ByteArray := prog_4_method_11_code
abbrev y_Listing_set : MethodName := ⟨"SourceDesk$Listing", "set", "(III)V"⟩
abbrev w_Listing_set : List Cond := .code y_Listing_set k_Listing_set 5 (none : Option FieldType) :: lw_t
abbrev k_Listing_drop : ByteArray := prog_4_method_12_code
abbrev y_Listing_drop : MethodName := ⟨"SourceDesk$Listing", "drop", "()V"⟩
abbrev w_Listing_drop : List Cond := .code y_Listing_drop k_Listing_drop 1 (none : Option FieldType) :: lw_t
abbrev k_Listing_become : ByteArray := prog_4_method_13_code
abbrev y_Listing_become : MethodName := ⟨"SourceDesk$Listing", "become", "(LSourceDesk$Listing;)V"⟩
abbrev w_Listing_become : List Cond := .code y_Listing_become k_Listing_become 2 (none : Option FieldType) :: lw_t
abbrev k_Listing_leastWrong : ByteArray := prog_4_method_14_code
abbrev y_Listing_leastWrong : MethodName := ⟨"SourceDesk$Listing", "leastWrong", "()I"⟩
abbrev w_Listing_leastWrong : List Cond := .code y_Listing_leastWrong k_Listing_leastWrong 2 (some FieldType.int) :: lw_t
abbrev k_Listing_isWrong : ByteArray := prog_4_method_15_code
abbrev y_Listing_isWrong : MethodName := ⟨"SourceDesk$Listing", "isWrong", "(I)Z"⟩
abbrev w_Listing_isWrong : List Cond := .code y_Listing_isWrong k_Listing_isWrong 3 (some FieldType.boolean) :: lw_t
abbrev k_Listing_isLanding : ByteArray := prog_4_method_16_code
abbrev y_Listing_isLanding : MethodName := ⟨"SourceDesk$Listing", "isLanding", "(I)Z"⟩
abbrev w_Listing_isLanding : List Cond := .code y_Listing_isLanding k_Listing_isLanding 2 (some FieldType.boolean) :: lw_t
abbrev k_Machine_init : ByteArray := prog_5_method_1_code
abbrev y_Machine_init : MethodName := ⟨"SourceDesk$Machine", "<init>", "()V"⟩
abbrev w_Machine_init : List Cond := .code y_Machine_init k_Machine_init 1 (none : Option FieldType) :: lw_t
abbrev k_Machine_start : ByteArray := prog_5_method_2_code
abbrev y_Machine_start : MethodName := ⟨"SourceDesk$Machine", "start", "(II)V"⟩
abbrev w_Machine_start : List Cond := .code y_Machine_start k_Machine_start 4 (none : Option FieldType) :: lw_t
abbrev k_Machine_spend : ByteArray := prog_5_method_3_code
abbrev y_Machine_spend : MethodName := ⟨"SourceDesk$Machine", "spend", "()Z"⟩
abbrev w_Machine_spend : List Cond := .code y_Machine_spend k_Machine_spend 1 (some FieldType.boolean) :: lw_t
abbrev k_Machine_execute : ByteArray := prog_5_method_4_code
abbrev y_Machine_execute : MethodName := ⟨"SourceDesk$Machine", "execute", "(LSourceDesk$Listing;)Z"⟩
abbrev w_Machine_execute : List Cond := .code y_Machine_execute k_Machine_execute 4 (some FieldType.boolean) :: lw_t
abbrev k_Machine_step : ByteArray := prog_5_method_5_code
abbrev y_Machine_step : MethodName := ⟨"SourceDesk$Machine", "step", "(III)I"⟩
abbrev w_Machine_step : List Cond := .code y_Machine_step k_Machine_step 4 (some FieldType.int) :: lw_t
abbrev k_Machine_perform : ByteArray := prog_5_method_6_code
abbrev y_Machine_perform : MethodName := ⟨"SourceDesk$Machine", "perform", "(II)V"⟩
abbrev w_Machine_perform : List Cond := .code y_Machine_perform k_Machine_perform 4 (none : Option FieldType) :: lw_t
abbrev k_Machine_combined : ByteArray := prog_5_method_7_code
abbrev y_Machine_combined : MethodName := ⟨"SourceDesk$Machine", "combined", "(III)I"⟩
abbrev w_Machine_combined : List Cond := .code y_Machine_combined k_Machine_combined 3 (some FieldType.int) :: lw_t
abbrev k_Machine_push : ByteArray := prog_5_method_8_code
abbrev y_Machine_push : MethodName := ⟨"SourceDesk$Machine", "push", "(I)V"⟩
abbrev w_Machine_push : List Cond := .code y_Machine_push k_Machine_push 2 (none : Option FieldType) :: lw_t
abbrev k_Machine_pop : ByteArray := prog_5_method_9_code
abbrev y_Machine_pop : MethodName := ⟨"SourceDesk$Machine", "pop", "()I"⟩
abbrev w_Machine_pop : List Cond := .code y_Machine_pop k_Machine_pop 1 (some FieldType.int) :: lw_t
abbrev k_Machine_print : ByteArray := prog_5_method_10_code
abbrev y_Machine_print : MethodName := ⟨"SourceDesk$Machine", "print", "(I)V"⟩
abbrev w_Machine_print : List Cond := .code y_Machine_print k_Machine_print 2 (none : Option FieldType) :: lw_t
abbrev k_Machine_keepVariable : ByteArray := prog_5_method_11_code
abbrev y_Machine_keepVariable : MethodName := ⟨"SourceDesk$Machine", "keepVariable", "(II)V"⟩
abbrev w_Machine_keepVariable : List Cond := .code y_Machine_keepVariable k_Machine_keepVariable 3 (none : Option FieldType) :: lw_t
abbrev k_Machine_variable : ByteArray := prog_5_method_12_code
abbrev y_Machine_variable : MethodName := ⟨"SourceDesk$Machine", "variable", "(I)I"⟩
abbrev w_Machine_variable : List Cond := .code y_Machine_variable k_Machine_variable 2 (some FieldType.int) :: lw_t
abbrev k_Machine_printed : ByteArray := prog_5_method_13_code
abbrev y_Machine_printed : MethodName := ⟨"SourceDesk$Machine", "printed", "()I"⟩
abbrev w_Machine_printed : List Cond := .code y_Machine_printed k_Machine_printed 1 (some FieldType.int) :: lw_t
abbrev k_Machine_done : ByteArray := prog_5_method_14_code
abbrev y_Machine_done : MethodName := ⟨"SourceDesk$Machine", "done", "()I"⟩
abbrev w_Machine_done : List Cond := .code y_Machine_done k_Machine_done 1 (some FieldType.int) :: lw_t
abbrev k_Machine_kept : ByteArray := prog_5_method_15_code
abbrev y_Machine_kept : MethodName := ⟨"SourceDesk$Machine", "kept", "(I)I"⟩
abbrev w_Machine_kept : List Cond := .code y_Machine_kept k_Machine_kept 2 (some FieldType.int) :: lw_t
abbrev k_Scribe_write : ByteArray := prog_6_method_2_code
abbrev y_Scribe_write : MethodName := ⟨"SourceDesk$Scribe", "write", "(LSourceDesk$Tree;LSourceDesk$Characters;)V"⟩
abbrev w_Scribe_write : List Cond := .code y_Scribe_write k_Scribe_write 2 (none : Option FieldType) :: lw_t
abbrev k_Scribe_writeFrom : ByteArray := prog_6_method_3_code
abbrev y_Scribe_writeFrom : MethodName := ⟨"SourceDesk$Scribe", "writeFrom", "(LSourceDesk$Tree;LSourceDesk$Characters;II)V"⟩
abbrev w_Scribe_writeFrom : List Cond := .code y_Scribe_writeFrom k_Scribe_writeFrom 6 (none : Option FieldType) :: lw_t
abbrev k_Scribe_writeStatement : ByteArray := prog_6_method_4_code
abbrev y_Scribe_writeStatement : MethodName := ⟨"SourceDesk$Scribe", "writeStatement", "(LSourceDesk$Tree;LSourceDesk$Characters;II)V"⟩
abbrev w_Scribe_writeStatement : List Cond := .code y_Scribe_writeStatement k_Scribe_writeStatement 6 (none : Option FieldType) :: lw_t
abbrev k_Scribe_writeBlock : ByteArray := prog_6_method_5_code
abbrev y_Scribe_writeBlock : MethodName := ⟨"SourceDesk$Scribe", "writeBlock", "(LSourceDesk$Tree;LSourceDesk$Characters;II)V"⟩
abbrev w_Scribe_writeBlock : List Cond := .code y_Scribe_writeBlock k_Scribe_writeBlock 4 (none : Option FieldType) :: lw_t
abbrev k_Scribe_signOfStatement : ByteArray := prog_6_method_6_code
abbrev y_Scribe_signOfStatement : MethodName := ⟨"SourceDesk$Scribe", "signOfStatement", "(I)C"⟩
abbrev w_Scribe_signOfStatement : List Cond := .code y_Scribe_signOfStatement k_Scribe_signOfStatement 1 (some FieldType.char) :: lw_t
abbrev k_Scribe_writeExpression : ByteArray := prog_6_method_7_code
abbrev y_Scribe_writeExpression : MethodName := ⟨"SourceDesk$Scribe", "writeExpression", "(LSourceDesk$Tree;LSourceDesk$Characters;II)V"⟩
abbrev w_Scribe_writeExpression : List Cond := .code y_Scribe_writeExpression k_Scribe_writeExpression 5 (none : Option FieldType) :: lw_t
abbrev k_Scribe_writeNumber : ByteArray := prog_6_method_8_code
abbrev y_Scribe_writeNumber : MethodName := ⟨"SourceDesk$Scribe", "writeNumber", "(LSourceDesk$Characters;I)V"⟩
abbrev w_Scribe_writeNumber : List Cond := .code y_Scribe_writeNumber k_Scribe_writeNumber 2 (none : Option FieldType) :: lw_t
abbrev k_Scribe_signOfOp : ByteArray := prog_6_method_9_code
abbrev y_Scribe_signOfOp : MethodName := ⟨"SourceDesk$Scribe", "signOfOp", "(I)C"⟩
abbrev w_Scribe_signOfOp : List Cond := .code y_Scribe_signOfOp k_Scribe_signOfOp 1 (some FieldType.char) :: lw_t
abbrev k_Tree_init : ByteArray := prog_7_method_1_code
abbrev y_Tree_init : MethodName := ⟨"SourceDesk$Tree", "<init>", "()V"⟩
abbrev w_Tree_init : List Cond := .code y_Tree_init k_Tree_init 1 (none : Option FieldType) :: lw_t
abbrev k_Tree_drop : ByteArray := prog_7_method_2_code
abbrev y_Tree_drop : MethodName := ⟨"SourceDesk$Tree", "drop", "()V"⟩
abbrev w_Tree_drop : List Cond := .code y_Tree_drop k_Tree_drop 1 (none : Option FieldType) :: lw_t
abbrev k_Tree_make : ByteArray := prog_7_method_3_code
abbrev y_Tree_make : MethodName := ⟨"SourceDesk$Tree", "make", "(LSourceDesk$Listing;)I"⟩
abbrev w_Tree_make : List Cond := .code y_Tree_make k_Tree_make 2 (some FieldType.int) :: lw_t
abbrev k_Tree_grow : ByteArray := prog_7_method_4_code
abbrev y_Tree_grow : MethodName := ⟨"SourceDesk$Tree", "grow", "(III)I"⟩
abbrev w_Tree_grow : List Cond := .code y_Tree_grow k_Tree_grow 9 (some FieldType.int) :: lw_t
abbrev k_Tree_growStatement : ByteArray := prog_7_method_5_code
abbrev y_Tree_growStatement : MethodName := ⟨"SourceDesk$Tree", "growStatement", "(III)I"⟩
abbrev w_Tree_growStatement : List Cond := .code y_Tree_growStatement k_Tree_growStatement 6 (some FieldType.int) :: lw_t
abbrev k_Tree_growBranch : ByteArray := prog_7_method_6_code
abbrev y_Tree_growBranch : MethodName := ⟨"SourceDesk$Tree", "growBranch", "(IIII)I"⟩
abbrev w_Tree_growBranch : List Cond := .code y_Tree_growBranch k_Tree_growBranch 13 (some FieldType.int) :: lw_t
abbrev k_Tree_tie : ByteArray := prog_7_method_7_code
abbrev y_Tree_tie : MethodName := ⟨"SourceDesk$Tree", "tie", "(I)I"⟩
abbrev w_Tree_tie : List Cond := .code y_Tree_tie k_Tree_tie 2 (some FieldType.int) :: lw_t
abbrev k_Tree_add : ByteArray := prog_7_method_8_code
abbrev y_Tree_add : MethodName := ⟨"SourceDesk$Tree", "add", "(IIIII)I"⟩
abbrev w_Tree_add : List Cond := .code y_Tree_add k_Tree_add 7 (some FieldType.int) :: lw_t
abbrev k_Tree_endOfExpression : ByteArray := prog_7_method_9_code
abbrev y_Tree_endOfExpression : MethodName := ⟨"SourceDesk$Tree", "endOfExpression", "(I)I"⟩
abbrev w_Tree_endOfExpression : List Cond := .code y_Tree_endOfExpression k_Tree_endOfExpression 3 (some FieldType.int) :: lw_t
abbrev k_Tree_isPart : ByteArray := prog_7_method_10_code
abbrev y_Tree_isPart : MethodName := ⟨"SourceDesk$Tree", "isPart", "(I)Z"⟩
abbrev w_Tree_isPart : List Cond := .code y_Tree_isPart k_Tree_isPart 1 (some FieldType.boolean) :: lw_t
abbrev k_Tree_beginOf : ByteArray := prog_7_method_11_code
abbrev y_Tree_beginOf : MethodName := ⟨"SourceDesk$Tree", "beginOf", "(I)I"⟩
abbrev w_Tree_beginOf : List Cond := .code y_Tree_beginOf k_Tree_beginOf 4 (some FieldType.int) :: lw_t
abbrev k_Tree_leftOf : ByteArray := prog_7_method_12_code
abbrev y_Tree_leftOf : MethodName := ⟨"SourceDesk$Tree", "leftOf", "(I)I"⟩
abbrev w_Tree_leftOf : List Cond := .code y_Tree_leftOf k_Tree_leftOf 2 (some FieldType.int) :: lw_t
abbrev k_Tree_stands : ByteArray := prog_7_method_13_code
abbrev y_Tree_stands : MethodName := ⟨"SourceDesk$Tree", "stands", "()Z"⟩
abbrev w_Tree_stands : List Cond := .code y_Tree_stands k_Tree_stands 1 (some FieldType.boolean) :: lw_t
abbrev k_Tree_size : ByteArray := prog_7_method_14_code
abbrev y_Tree_size : MethodName := ⟨"SourceDesk$Tree", "size", "()I"⟩
abbrev w_Tree_size : List Cond := .code y_Tree_size k_Tree_size 1 (some FieldType.int) :: lw_t
abbrev k_Tree_sizeOf : ByteArray := prog_7_method_15_code
abbrev y_Tree_sizeOf : MethodName := ⟨"SourceDesk$Tree", "sizeOf", "(I)I"⟩
abbrev w_Tree_sizeOf : List Cond := .code y_Tree_sizeOf k_Tree_sizeOf 4 (some FieldType.int) :: lw_t
abbrev k_Tree_depth : ByteArray := prog_7_method_16_code
abbrev y_Tree_depth : MethodName := ⟨"SourceDesk$Tree", "depth", "()I"⟩
abbrev w_Tree_depth : List Cond := .code y_Tree_depth k_Tree_depth 1 (some FieldType.int) :: lw_t
abbrev k_Tree_first : ByteArray := prog_7_method_17_code
abbrev y_Tree_first : MethodName := ⟨"SourceDesk$Tree", "first", "()I"⟩
abbrev w_Tree_first : List Cond := .code y_Tree_first k_Tree_first 1 (some FieldType.int) :: lw_t
abbrev k_Tree_holds : ByteArray := prog_7_method_18_code
abbrev y_Tree_holds : MethodName := ⟨"SourceDesk$Tree", "holds", "(I)Z"⟩
abbrev w_Tree_holds : List Cond := .code y_Tree_holds k_Tree_holds 2 (some FieldType.boolean) :: lw_t
abbrev k_Tree_kind : ByteArray := prog_7_method_19_code
abbrev y_Tree_kind : MethodName := ⟨"SourceDesk$Tree", "kind", "(I)I"⟩
abbrev w_Tree_kind : List Cond := .code y_Tree_kind k_Tree_kind 2 (some FieldType.int) :: lw_t
abbrev k_Tree_from : ByteArray := prog_7_method_20_code
abbrev y_Tree_from : MethodName := ⟨"SourceDesk$Tree", "from", "(I)I"⟩
abbrev w_Tree_from : List Cond := .code y_Tree_from k_Tree_from 2 (some FieldType.int) :: lw_t
abbrev k_Tree_mark : ByteArray := prog_7_method_21_code
abbrev y_Tree_mark : MethodName := ⟨"SourceDesk$Tree", "mark", "(I)I"⟩
abbrev w_Tree_mark : List Cond := .code y_Tree_mark k_Tree_mark 2 (some FieldType.int) :: lw_t
abbrev k_Tree_part : ByteArray := prog_7_method_22_code
abbrev y_Tree_part : MethodName := ⟨"SourceDesk$Tree", "part", "(I)I"⟩
abbrev w_Tree_part : List Cond := .code y_Tree_part k_Tree_part 2 (some FieldType.int) :: lw_t
abbrev k_Tree_other : ByteArray := prog_7_method_23_code
abbrev y_Tree_other : MethodName := ⟨"SourceDesk$Tree", "other", "(I)I"⟩
abbrev w_Tree_other : List Cond := .code y_Tree_other k_Tree_other 2 (some FieldType.int) :: lw_t
abbrev k_Tree_follower : ByteArray := prog_7_method_24_code
abbrev y_Tree_follower : MethodName := ⟨"SourceDesk$Tree", "follower", "(I)I"⟩
abbrev w_Tree_follower : List Cond := .code y_Tree_follower k_Tree_follower 2 (some FieldType.int) :: lw_t
abbrev k_Tree_source : ByteArray := prog_7_method_25_code
abbrev y_Tree_source : MethodName := ⟨"SourceDesk$Tree", "source", "()LSourceDesk$Listing;"⟩
abbrev w_Tree_source : List Cond := .code y_Tree_source k_Tree_source 1 (some (FieldType.object "SourceDesk$Listing")) :: lw_t
abbrev k_Walker_follow : ByteArray := prog_8_method_2_code
abbrev y_Walker_follow : MethodName := ⟨"SourceDesk$Walker", "follow", "(LSourceDesk$Tree;LSourceDesk$Machine;)Z"⟩
abbrev w_Walker_follow : List Cond := .code y_Walker_follow k_Walker_follow 2 (some FieldType.boolean) :: lw_t
abbrev k_Walker_walkFrom : ByteArray := prog_8_method_3_code
abbrev y_Walker_walkFrom : MethodName := ⟨"SourceDesk$Walker", "walkFrom", "(LSourceDesk$Tree;LSourceDesk$Machine;II)Z"⟩
abbrev w_Walker_walkFrom : List Cond := .code y_Walker_walkFrom k_Walker_walkFrom 7 (some FieldType.boolean) :: lw_t
abbrev k_Walker_walkLoop : ByteArray := prog_8_method_4_code
abbrev y_Walker_walkLoop : MethodName := ⟨"SourceDesk$Walker", "walkLoop", "(LSourceDesk$Tree;LSourceDesk$Machine;II)Z"⟩
abbrev w_Walker_walkLoop : List Cond := .code y_Walker_walkLoop k_Walker_walkLoop 5 (some FieldType.boolean) :: lw_t
abbrev k_Walker_walkStatement : ByteArray := prog_8_method_5_code
abbrev y_Walker_walkStatement : MethodName := ⟨"SourceDesk$Walker", "walkStatement", "(LSourceDesk$Tree;LSourceDesk$Machine;II)Z"⟩
abbrev w_Walker_walkStatement : List Cond := .code y_Walker_walkStatement k_Walker_walkStatement 7 (some FieldType.boolean) :: lw_t
abbrev k_Walker_valueOf : ByteArray := prog_8_method_6_code
abbrev y_Walker_valueOf : MethodName := ⟨"SourceDesk$Walker", "valueOf", "(LSourceDesk$Tree;LSourceDesk$Machine;I)I"⟩
abbrev w_Walker_valueOf : List Cond := .code y_Walker_valueOf k_Walker_valueOf 3 (some FieldType.int) :: lw_t
abbrev k_Walker_perform : ByteArray := prog_8_method_7_code
abbrev y_Walker_perform : MethodName := ⟨"SourceDesk$Walker", "perform", "(LSourceDesk$Tree;LSourceDesk$Machine;II)V"⟩
abbrev w_Walker_perform : List Cond := .code y_Walker_perform k_Walker_perform 6 (none : Option FieldType) :: lw_t
theorem mt_1_2 : (Jvm.Cond.initialized "SourceDesk$Listing") ∈ lw_t := lw_m (lw_in_1 (List.mem_of_getElem? (i := 2) (by decide +kernel))) rfl
theorem mt_1_3 : (Jvm.Cond.initialized "SourceDesk$Draft") ∈ lw_t := lw_m (lw_in_1 (List.mem_of_getElem? (i := 3) (by decide +kernel))) rfl
theorem mt_1_4 : (Jvm.Cond.initialized "SourceDesk$Characters") ∈ lw_t := lw_m (lw_in_1 (List.mem_of_getElem? (i := 4) (by decide +kernel))) rfl
theorem mt_1_5 : (Jvm.Cond.initialized "SourceDesk$Tree") ∈ lw_t := lw_m (lw_in_1 (List.mem_of_getElem? (i := 5) (by decide +kernel))) rfl
theorem mt_1_6 : (Jvm.Cond.initialized "SourceDesk$Machine") ∈ lw_t := lw_m (lw_in_1 (List.mem_of_getElem? (i := 6) (by decide +kernel))) rfl
theorem mt_1_7 : (Jvm.Cond.initialized "SourceDeskModel") ∈ lw_t := lw_m (lw_in_1 (List.mem_of_getElem? (i := 7) (by decide +kernel))) rfl
theorem mt_1_8 : (Jvm.Cond.initialized "java/lang/Math") ∈ lw_t := lw_m (lw_in_1 (List.mem_of_getElem? (i := 8) (by decide +kernel))) rfl
theorem mt_1_9 : (Jvm.Cond.initialized "java/lang/System") ∈ lw_t := lw_m (lw_in_1 (List.mem_of_getElem? (i := 9) (by decide +kernel))) rfl
theorem mt_1_10 : (Jvm.Cond.initialized "SourceDesk$Scribe") ∈ lw_t := lw_m (lw_in_1 (List.mem_of_getElem? (i := 10) (by decide +kernel))) rfl
theorem mt_1_11 : (Jvm.Cond.initialized "SourceDesk$Walker") ∈ lw_t := lw_m (lw_in_1 (List.mem_of_getElem? (i := 11) (by decide +kernel))) rfl
theorem mt_1_17 : (Jvm.Cond.methodLink "SourceDesk" (3 : Nat) ({ cls := "java/lang/Object", name := "<init>", desc := "()V" } : Jvm.MethodName)) ∈ lw_t := lw_m (lw_in_1 (List.mem_of_getElem? (i := 17) (by decide +kernel))) rfl
theorem mt_1_18 : (Jvm.Cond.instanceMethod ({ cls := "java/lang/Object", name := "<init>", desc := "()V" } : Jvm.MethodName)) ∈ lw_t := lw_m (lw_in_1 (List.mem_of_getElem? (i := 18) (by decide +kernel))) rfl
theorem mt_1_19 : (Jvm.Cond.code ({ cls := "java/lang/Object", name := "<init>", desc := "()V" } : Jvm.MethodName) object_method_1_code (1 : Nat) (Option.none : Option Jvm.ClassFile.FieldType)) ∈ lw_t := lw_m (lw_in_1 (List.mem_of_getElem? (i := 19) (by decide +kernel))) rfl
theorem mt_1_20 : (Jvm.Cond.classLink "SourceDesk" (9 : Nat) "SourceDesk$Listing") ∈ lw_t := lw_m (lw_in_1 (List.mem_of_getElem? (i := 20) (by decide +kernel))) rfl
theorem mt_1_21 : (Jvm.Cond.instantiable "SourceDesk$Listing" (4 : Nat)) ∈ lw_t := lw_m (lw_in_1 (List.mem_of_getElem? (i := 21) (by decide +kernel))) rfl
theorem mt_1_22 : (Jvm.Cond.methodLink "SourceDesk" (11 : Nat) ({ cls := "SourceDesk$Listing", name := "<init>", desc := "(I)V" } : Jvm.MethodName)) ∈ lw_t := lw_m (lw_in_1 (List.mem_of_getElem? (i := 22) (by decide +kernel))) rfl
theorem mt_1_23 : (Jvm.Cond.instanceMethod ({ cls := "SourceDesk$Listing", name := "<init>", desc := "(I)V" } : Jvm.MethodName)) ∈ lw_t := lw_m (lw_in_1 (List.mem_of_getElem? (i := 23) (by decide +kernel))) rfl
theorem mt_1_24 : (Jvm.Cond.code ({ cls := "SourceDesk$Listing", name := "<init>", desc := "(I)V" } : Jvm.MethodName) prog_4_method_1_code (2 : Nat) (Option.none : Option Jvm.ClassFile.FieldType)) ∈ lw_t := lw_m (lw_in_1 (List.mem_of_getElem? (i := 24) (by decide +kernel))) rfl
theorem mt_1_25 : (Jvm.Cond.methodLink "SourceDesk$Listing" (3 : Nat) ({ cls := "java/lang/Object", name := "<init>", desc := "()V" } : Jvm.MethodName)) ∈ lw_t := lw_m (lw_in_1 (List.mem_of_getElem? (i := 25) (by decide +kernel))) rfl
theorem mt_1_26 : (Jvm.Cond.fieldLink "SourceDesk$Listing" (9 : Nat) "SourceDesk$Listing" "ops" "[I") ∈ lw_t := lw_m (lw_in_1 (List.mem_of_getElem? (i := 26) (by decide +kernel))) rfl
theorem mt_1_27 : (Jvm.Cond.fieldLink "SourceDesk$Listing" (15 : Nat) "SourceDesk$Listing" "numbers" "[I") ∈ lw_t := lw_m (lw_in_1 (List.mem_of_getElem? (i := 27) (by decide +kernel))) rfl
theorem mt_1_28 : (Jvm.Cond.fieldLink "SourceDesk$Listing" (18 : Nat) "SourceDesk$Listing" "heights" "[I") ∈ lw_t := lw_m (lw_in_1 (List.mem_of_getElem? (i := 28) (by decide +kernel))) rfl
theorem mt_1_29 : (Jvm.Cond.fieldLink "SourceDesk$Listing" (21 : Nat) "SourceDesk$Listing" "size" "I") ∈ lw_t := lw_m (lw_in_1 (List.mem_of_getElem? (i := 29) (by decide +kernel))) rfl
theorem mt_1_39 : (Jvm.Cond.arrayClass Jvm.ClassFile.FieldType.int) ∈ lw_t := lw_m (lw_in_1 (List.mem_of_getElem? (i := 39) (by decide +kernel))) rfl
theorem mt_1_40 : (Jvm.Cond.classLink "SourceDesk" (18 : Nat) "SourceDesk$Draft") ∈ lw_t := lw_m (lw_in_1 (List.mem_of_getElem? (i := 40) (by decide +kernel))) rfl
theorem mt_1_41 : (Jvm.Cond.instantiable "SourceDesk$Draft" (3 : Nat)) ∈ lw_t := lw_m (lw_in_1 (List.mem_of_getElem? (i := 41) (by decide +kernel))) rfl
theorem mt_1_42 : (Jvm.Cond.methodLink "SourceDesk" (20 : Nat) ({ cls := "SourceDesk$Draft", name := "<init>", desc := "()V" } : Jvm.MethodName)) ∈ lw_t := lw_m (lw_in_1 (List.mem_of_getElem? (i := 42) (by decide +kernel))) rfl
theorem mt_1_43 : (Jvm.Cond.instanceMethod ({ cls := "SourceDesk$Draft", name := "<init>", desc := "()V" } : Jvm.MethodName)) ∈ lw_t := lw_m (lw_in_1 (List.mem_of_getElem? (i := 43) (by decide +kernel))) rfl
theorem mt_1_44 : (Jvm.Cond.code ({ cls := "SourceDesk$Draft", name := "<init>", desc := "()V" } : Jvm.MethodName) prog_3_method_1_code (1 : Nat) (Option.none : Option Jvm.ClassFile.FieldType)) ∈ lw_t := lw_m (lw_in_1 (List.mem_of_getElem? (i := 44) (by decide +kernel))) rfl
theorem mt_1_45 : (Jvm.Cond.methodLink "SourceDesk$Draft" (3 : Nat) ({ cls := "java/lang/Object", name := "<init>", desc := "()V" } : Jvm.MethodName)) ∈ lw_t := lw_m (lw_in_1 (List.mem_of_getElem? (i := 45) (by decide +kernel))) rfl
theorem mt_1_46 : (Jvm.Cond.classLink "SourceDesk$Draft" (9 : Nat) "SourceDesk$Characters") ∈ lw_t := lw_m (lw_in_1 (List.mem_of_getElem? (i := 46) (by decide +kernel))) rfl
theorem mt_1_47 : (Jvm.Cond.instantiable "SourceDesk$Characters" (2 : Nat)) ∈ lw_t := lw_m (lw_in_1 (List.mem_of_getElem? (i := 47) (by decide +kernel))) rfl
theorem mt_1_48 : (Jvm.Cond.methodLink "SourceDesk$Draft" (11 : Nat) ({ cls := "SourceDesk$Characters", name := "<init>", desc := "(I)V" } : Jvm.MethodName)) ∈ lw_t := lw_m (lw_in_1 (List.mem_of_getElem? (i := 48) (by decide +kernel))) rfl
theorem mt_1_49 : (Jvm.Cond.instanceMethod ({ cls := "SourceDesk$Characters", name := "<init>", desc := "(I)V" } : Jvm.MethodName)) ∈ lw_t := lw_m (lw_in_1 (List.mem_of_getElem? (i := 49) (by decide +kernel))) rfl
theorem mt_1_50 : (Jvm.Cond.code ({ cls := "SourceDesk$Characters", name := "<init>", desc := "(I)V" } : Jvm.MethodName) prog_2_method_1_code (2 : Nat) (Option.none : Option Jvm.ClassFile.FieldType)) ∈ lw_t := lw_m (lw_in_1 (List.mem_of_getElem? (i := 50) (by decide +kernel))) rfl
theorem mt_1_51 : (Jvm.Cond.methodLink "SourceDesk$Characters" (3 : Nat) ({ cls := "java/lang/Object", name := "<init>", desc := "()V" } : Jvm.MethodName)) ∈ lw_t := lw_m (lw_in_1 (List.mem_of_getElem? (i := 51) (by decide +kernel))) rfl
theorem mt_1_52 : (Jvm.Cond.fieldLink "SourceDesk$Characters" (9 : Nat) "SourceDesk$Characters" "row" "[C") ∈ lw_t := lw_m (lw_in_1 (List.mem_of_getElem? (i := 52) (by decide +kernel))) rfl
theorem mt_1_53 : (Jvm.Cond.fieldLink "SourceDesk$Characters" (15 : Nat) "SourceDesk$Characters" "size" "I") ∈ lw_t := lw_m (lw_in_1 (List.mem_of_getElem? (i := 53) (by decide +kernel))) rfl
theorem mt_1_59 : (Jvm.Cond.arrayClass Jvm.ClassFile.FieldType.char) ∈ lw_t := lw_m (lw_in_1 (List.mem_of_getElem? (i := 59) (by decide +kernel))) rfl
theorem mt_1_60 : (Jvm.Cond.classLink "SourceDesk$Draft" (20 : Nat) "SourceDesk$Listing") ∈ lw_t := lw_m (lw_in_1 (List.mem_of_getElem? (i := 60) (by decide +kernel))) rfl
theorem mt_1_61 : (Jvm.Cond.methodLink "SourceDesk$Draft" (22 : Nat) ({ cls := "SourceDesk$Listing", name := "<init>", desc := "(I)V" } : Jvm.MethodName)) ∈ lw_t := lw_m (lw_in_1 (List.mem_of_getElem? (i := 61) (by decide +kernel))) rfl
theorem mt_1_62 : (Jvm.Cond.fieldLink "SourceDesk$Draft" (14 : Nat) "SourceDesk$Draft" "row" "LSourceDesk$Characters;") ∈ lw_t := lw_m (lw_in_1 (List.mem_of_getElem? (i := 62) (by decide +kernel))) rfl
theorem mt_1_63 : (Jvm.Cond.fieldLink "SourceDesk$Draft" (23 : Nat) "SourceDesk$Draft" "made" "LSourceDesk$Listing;") ∈ lw_t := lw_m (lw_in_1 (List.mem_of_getElem? (i := 63) (by decide +kernel))) rfl
theorem mt_1_64 : (Jvm.Cond.fieldLink "SourceDesk$Draft" (27 : Nat) "SourceDesk$Draft" "at" "I") ∈ lw_t := lw_m (lw_in_1 (List.mem_of_getElem? (i := 64) (by decide +kernel))) rfl
theorem mt_1_72 : (Jvm.Cond.classLink "SourceDesk" (25 : Nat) "SourceDesk$Characters") ∈ lw_t := lw_m (lw_in_1 (List.mem_of_getElem? (i := 72) (by decide +kernel))) rfl
theorem mt_1_73 : (Jvm.Cond.methodLink "SourceDesk" (27 : Nat) ({ cls := "SourceDesk$Characters", name := "<init>", desc := "(I)V" } : Jvm.MethodName)) ∈ lw_t := lw_m (lw_in_1 (List.mem_of_getElem? (i := 73) (by decide +kernel))) rfl
theorem mt_1_74 : (Jvm.Cond.classLink "SourceDesk" (32 : Nat) "SourceDesk$Tree") ∈ lw_t := lw_m (lw_in_1 (List.mem_of_getElem? (i := 74) (by decide +kernel))) rfl
theorem mt_1_75 : (Jvm.Cond.instantiable "SourceDesk$Tree" (13 : Nat)) ∈ lw_t := lw_m (lw_in_1 (List.mem_of_getElem? (i := 75) (by decide +kernel))) rfl
theorem mt_1_76 : (Jvm.Cond.methodLink "SourceDesk" (34 : Nat) ({ cls := "SourceDesk$Tree", name := "<init>", desc := "()V" } : Jvm.MethodName)) ∈ lw_t := lw_m (lw_in_1 (List.mem_of_getElem? (i := 76) (by decide +kernel))) rfl
theorem mt_1_77 : (Jvm.Cond.instanceMethod ({ cls := "SourceDesk$Tree", name := "<init>", desc := "()V" } : Jvm.MethodName)) ∈ lw_t := lw_m (lw_in_1 (List.mem_of_getElem? (i := 77) (by decide +kernel))) rfl
theorem mt_1_78 : (Jvm.Cond.code ({ cls := "SourceDesk$Tree", name := "<init>", desc := "()V" } : Jvm.MethodName) prog_7_method_1_code (1 : Nat) (Option.none : Option Jvm.ClassFile.FieldType)) ∈ lw_t := lw_m (lw_in_1 (List.mem_of_getElem? (i := 78) (by decide +kernel))) rfl
theorem mt_1_79 : (Jvm.Cond.methodLink "SourceDesk$Tree" (3 : Nat) ({ cls := "java/lang/Object", name := "<init>", desc := "()V" } : Jvm.MethodName)) ∈ lw_t := lw_m (lw_in_1 (List.mem_of_getElem? (i := 79) (by decide +kernel))) rfl
theorem mt_1_80 : (Jvm.Cond.classLink "SourceDesk$Tree" (9 : Nat) "SourceDesk$Listing") ∈ lw_t := lw_m (lw_in_1 (List.mem_of_getElem? (i := 80) (by decide +kernel))) rfl
theorem mt_1_81 : (Jvm.Cond.methodLink "SourceDesk$Tree" (11 : Nat) ({ cls := "SourceDesk$Listing", name := "<init>", desc := "(I)V" } : Jvm.MethodName)) ∈ lw_t := lw_m (lw_in_1 (List.mem_of_getElem? (i := 81) (by decide +kernel))) rfl
theorem mt_1_82 : (Jvm.Cond.fieldLink "SourceDesk$Tree" (14 : Nat) "SourceDesk$Tree" "source" "LSourceDesk$Listing;") ∈ lw_t := lw_m (lw_in_1 (List.mem_of_getElem? (i := 82) (by decide +kernel))) rfl
theorem mt_1_83 : (Jvm.Cond.fieldLink "SourceDesk$Tree" (20 : Nat) "SourceDesk$Tree" "kinds" "[I") ∈ lw_t := lw_m (lw_in_1 (List.mem_of_getElem? (i := 83) (by decide +kernel))) rfl
theorem mt_1_84 : (Jvm.Cond.fieldLink "SourceDesk$Tree" (24 : Nat) "SourceDesk$Tree" "froms" "[I") ∈ lw_t := lw_m (lw_in_1 (List.mem_of_getElem? (i := 84) (by decide +kernel))) rfl
theorem mt_1_85 : (Jvm.Cond.fieldLink "SourceDesk$Tree" (27 : Nat) "SourceDesk$Tree" "marks" "[I") ∈ lw_t := lw_m (lw_in_1 (List.mem_of_getElem? (i := 85) (by decide +kernel))) rfl
theorem mt_1_86 : (Jvm.Cond.fieldLink "SourceDesk$Tree" (30 : Nat) "SourceDesk$Tree" "ends" "[I") ∈ lw_t := lw_m (lw_in_1 (List.mem_of_getElem? (i := 86) (by decide +kernel))) rfl
theorem mt_1_87 : (Jvm.Cond.fieldLink "SourceDesk$Tree" (33 : Nat) "SourceDesk$Tree" "parts" "[I") ∈ lw_t := lw_m (lw_in_1 (List.mem_of_getElem? (i := 87) (by decide +kernel))) rfl
theorem mt_1_88 : (Jvm.Cond.fieldLink "SourceDesk$Tree" (36 : Nat) "SourceDesk$Tree" "others" "[I") ∈ lw_t := lw_m (lw_in_1 (List.mem_of_getElem? (i := 88) (by decide +kernel))) rfl
theorem mt_1_89 : (Jvm.Cond.fieldLink "SourceDesk$Tree" (39 : Nat) "SourceDesk$Tree" "followers" "[I") ∈ lw_t := lw_m (lw_in_1 (List.mem_of_getElem? (i := 89) (by decide +kernel))) rfl
theorem mt_1_90 : (Jvm.Cond.fieldLink "SourceDesk$Tree" (42 : Nat) "SourceDesk$Tree" "begins" "[I") ∈ lw_t := lw_m (lw_in_1 (List.mem_of_getElem? (i := 90) (by decide +kernel))) rfl
theorem mt_1_91 : (Jvm.Cond.fieldLink "SourceDesk$Tree" (45 : Nat) "SourceDesk$Tree" "size" "I") ∈ lw_t := lw_m (lw_in_1 (List.mem_of_getElem? (i := 91) (by decide +kernel))) rfl
theorem mt_1_92 : (Jvm.Cond.fieldLink "SourceDesk$Tree" (49 : Nat) "SourceDesk$Tree" "depth" "I") ∈ lw_t := lw_m (lw_in_1 (List.mem_of_getElem? (i := 92) (by decide +kernel))) rfl
theorem mt_1_93 : (Jvm.Cond.fieldLink "SourceDesk$Tree" (52 : Nat) "SourceDesk$Tree" "knot" "I") ∈ lw_t := lw_m (lw_in_1 (List.mem_of_getElem? (i := 93) (by decide +kernel))) rfl
theorem mt_1_94 : (Jvm.Cond.fieldLink "SourceDesk$Tree" (55 : Nat) "SourceDesk$Tree" "stands" "Z") ∈ lw_t := lw_m (lw_in_1 (List.mem_of_getElem? (i := 94) (by decide +kernel))) rfl
theorem mt_1_122 : (Jvm.Cond.classLink "SourceDesk" (39 : Nat) "SourceDesk$Machine") ∈ lw_t := lw_m (lw_in_1 (List.mem_of_getElem? (i := 122) (by decide +kernel))) rfl
theorem mt_1_123 : (Jvm.Cond.instantiable "SourceDesk$Machine" (7 : Nat)) ∈ lw_t := lw_m (lw_in_1 (List.mem_of_getElem? (i := 123) (by decide +kernel))) rfl
theorem mt_1_124 : (Jvm.Cond.methodLink "SourceDesk" (41 : Nat) ({ cls := "SourceDesk$Machine", name := "<init>", desc := "()V" } : Jvm.MethodName)) ∈ lw_t := lw_m (lw_in_1 (List.mem_of_getElem? (i := 124) (by decide +kernel))) rfl
theorem mt_1_125 : (Jvm.Cond.instanceMethod ({ cls := "SourceDesk$Machine", name := "<init>", desc := "()V" } : Jvm.MethodName)) ∈ lw_t := lw_m (lw_in_1 (List.mem_of_getElem? (i := 125) (by decide +kernel))) rfl
theorem mt_1_126 : (Jvm.Cond.code ({ cls := "SourceDesk$Machine", name := "<init>", desc := "()V" } : Jvm.MethodName) prog_5_method_1_code (1 : Nat) (Option.none : Option Jvm.ClassFile.FieldType)) ∈ lw_t := lw_m (lw_in_1 (List.mem_of_getElem? (i := 126) (by decide +kernel))) rfl
theorem mt_1_127 : (Jvm.Cond.methodLink "SourceDesk$Machine" (3 : Nat) ({ cls := "java/lang/Object", name := "<init>", desc := "()V" } : Jvm.MethodName)) ∈ lw_t := lw_m (lw_in_1 (List.mem_of_getElem? (i := 127) (by decide +kernel))) rfl
theorem mt_1_128 : (Jvm.Cond.fieldLink "SourceDesk$Machine" (9 : Nat) "SourceDesk$Machine" "stack" "[I") ∈ lw_t := lw_m (lw_in_1 (List.mem_of_getElem? (i := 128) (by decide +kernel))) rfl
theorem mt_1_129 : (Jvm.Cond.fieldLink "SourceDesk$Machine" (15 : Nat) "SourceDesk$Machine" "variables" "[I") ∈ lw_t := lw_m (lw_in_1 (List.mem_of_getElem? (i := 129) (by decide +kernel))) rfl
theorem mt_1_130 : (Jvm.Cond.fieldLink "SourceDesk$Machine" (18 : Nat) "SourceDesk$Machine" "kept" "[I") ∈ lw_t := lw_m (lw_in_1 (List.mem_of_getElem? (i := 130) (by decide +kernel))) rfl
theorem mt_1_131 : (Jvm.Cond.fieldLink "SourceDesk$Machine" (21 : Nat) "SourceDesk$Machine" "height" "I") ∈ lw_t := lw_m (lw_in_1 (List.mem_of_getElem? (i := 131) (by decide +kernel))) rfl
theorem mt_1_132 : (Jvm.Cond.fieldLink "SourceDesk$Machine" (25 : Nat) "SourceDesk$Machine" "printed" "I") ∈ lw_t := lw_m (lw_in_1 (List.mem_of_getElem? (i := 132) (by decide +kernel))) rfl
theorem mt_1_133 : (Jvm.Cond.fieldLink "SourceDesk$Machine" (28 : Nat) "SourceDesk$Machine" "done" "I") ∈ lw_t := lw_m (lw_in_1 (List.mem_of_getElem? (i := 133) (by decide +kernel))) rfl
theorem mt_1_134 : (Jvm.Cond.fieldLink "SourceDesk$Machine" (31 : Nat) "SourceDesk$Machine" "limit" "I") ∈ lw_t := lw_m (lw_in_1 (List.mem_of_getElem? (i := 134) (by decide +kernel))) rfl
theorem mt_1_150 : (Jvm.Cond.fieldLink "SourceDesk" (14 : Nat) "SourceDesk" "listing" "LSourceDesk$Listing;") ∈ lw_t := lw_m (lw_in_1 (List.mem_of_getElem? (i := 150) (by decide +kernel))) rfl
theorem mt_1_151 : (Jvm.Cond.fieldLink "SourceDesk" (21 : Nat) "SourceDesk" "draft" "LSourceDesk$Draft;") ∈ lw_t := lw_m (lw_in_1 (List.mem_of_getElem? (i := 151) (by decide +kernel))) rfl
theorem mt_1_152 : (Jvm.Cond.fieldLink "SourceDesk" (28 : Nat) "SourceDesk" "written" "LSourceDesk$Characters;") ∈ lw_t := lw_m (lw_in_1 (List.mem_of_getElem? (i := 152) (by decide +kernel))) rfl
theorem mt_1_153 : (Jvm.Cond.fieldLink "SourceDesk" (35 : Nat) "SourceDesk" "tree" "LSourceDesk$Tree;") ∈ lw_t := lw_m (lw_in_1 (List.mem_of_getElem? (i := 153) (by decide +kernel))) rfl
theorem mt_1_154 : (Jvm.Cond.fieldLink "SourceDesk" (42 : Nat) "SourceDesk" "machine" "LSourceDesk$Machine;") ∈ lw_t := lw_m (lw_in_1 (List.mem_of_getElem? (i := 154) (by decide +kernel))) rfl
theorem mt_1_155 : (Jvm.Cond.fieldLink "SourceDesk" (46 : Nat) "SourceDesk" "trouble" "I") ∈ lw_t := lw_m (lw_in_1 (List.mem_of_getElem? (i := 155) (by decide +kernel))) rfl
theorem mt_1_173 : (Jvm.Cond.methodLink "SourceDesk" (50 : Nat) ({ cls := "SourceDesk$Listing", name := "fits", desc := "(II)Z" } : Jvm.MethodName)) ∈ lw_t := lw_m (lw_in_1 (List.mem_of_getElem? (i := 173) (by decide +kernel))) rfl
theorem mt_1_174 : (Jvm.Cond.static ({ cls := "SourceDesk$Listing", name := "fits", desc := "(II)Z" } : Jvm.MethodName)) ∈ lw_t := lw_m (lw_in_1 (List.mem_of_getElem? (i := 174) (by decide +kernel))) rfl
theorem mt_1_175 : (Jvm.Cond.code ({ cls := "SourceDesk$Listing", name := "fits", desc := "(II)Z" } : Jvm.MethodName) prog_4_method_2_code (3 : Nat) (Option.some Jvm.ClassFile.FieldType.boolean)) ∈ lw_t := lw_m (lw_in_1 (List.mem_of_getElem? (i := 175) (by decide +kernel))) rfl
theorem mt_1_176 : (Jvm.Cond.methodLink "SourceDesk$Listing" (25 : Nat) ({ cls := "SourceDesk$Listing", name := "greatestNumber", desc := "(I)I" } : Jvm.MethodName)) ∈ lw_t := lw_m (lw_in_1 (List.mem_of_getElem? (i := 176) (by decide +kernel))) rfl
theorem mt_1_177 : (Jvm.Cond.static ({ cls := "SourceDesk$Listing", name := "greatestNumber", desc := "(I)I" } : Jvm.MethodName)) ∈ lw_t := lw_m (lw_in_1 (List.mem_of_getElem? (i := 177) (by decide +kernel))) rfl
theorem mt_1_178 : (Jvm.Cond.code ({ cls := "SourceDesk$Listing", name := "greatestNumber", desc := "(I)I" } : Jvm.MethodName) prog_4_method_3_code (1 : Nat) (Option.some Jvm.ClassFile.FieldType.int)) ∈ lw_t := lw_m (lw_in_1 (List.mem_of_getElem? (i := 178) (by decide +kernel))) rfl
theorem mt_1_179 : (Jvm.Cond.methodLink "SourceDesk" (54 : Nat) ({ cls := "SourceDesk$Listing", name := "add", desc := "(II)Z" } : Jvm.MethodName)) ∈ lw_t := lw_m (lw_in_1 (List.mem_of_getElem? (i := 179) (by decide +kernel))) rfl
theorem mt_1_180 : (Jvm.Cond.instanceMethod ({ cls := "SourceDesk$Listing", name := "add", desc := "(II)Z" } : Jvm.MethodName)) ∈ lw_t := lw_m (lw_in_1 (List.mem_of_getElem? (i := 180) (by decide +kernel))) rfl
theorem mt_1_181 : (Jvm.Cond.selects "SourceDesk$Listing" ({ cls := "SourceDesk$Listing", name := "add", desc := "(II)Z" } : Jvm.MethodName) ({ cls := "SourceDesk$Listing", name := "add", desc := "(II)Z" } : Jvm.MethodName)) ∈ lw_t := lw_m (lw_in_1 (List.mem_of_getElem? (i := 181) (by decide +kernel))) rfl
theorem mt_1_182 : (Jvm.Cond.code ({ cls := "SourceDesk$Listing", name := "add", desc := "(II)Z" } : Jvm.MethodName) prog_4_method_10_code (3 : Nat) (Option.some Jvm.ClassFile.FieldType.boolean)) ∈ lw_t := lw_m (lw_in_1 (List.mem_of_getElem? (i := 182) (by decide +kernel))) rfl
theorem mt_1_183 : (Jvm.Cond.methodLink "SourceDesk$Listing" (33 : Nat) ({ cls := "SourceDesk$Listing", name := "set", desc := "(III)V" } : Jvm.MethodName)) ∈ lw_t := lw_m (lw_in_1 (List.mem_of_getElem? (i := 183) (by decide +kernel))) rfl
theorem mt_1_184 : (Jvm.Cond.instanceMethod ({ cls := "SourceDesk$Listing", name := "set", desc := "(III)V" } : Jvm.MethodName)) ∈ lw_t := lw_m (lw_in_1 (List.mem_of_getElem? (i := 184) (by decide +kernel))) rfl
theorem mt_1_185 : (Jvm.Cond.selects "SourceDesk$Listing" ({ cls := "SourceDesk$Listing", name := "set", desc := "(III)V" } : Jvm.MethodName) ({ cls := "SourceDesk$Listing", name := "set", desc := "(III)V" } : Jvm.MethodName)) ∈ lw_t := lw_m (lw_in_1 (List.mem_of_getElem? (i := 185) (by decide +kernel))) rfl
theorem mt_1_186 : (Jvm.Cond.code ({ cls := "SourceDesk$Listing", name := "set", desc := "(III)V" } : Jvm.MethodName) prog_4_method_11_code (5 : Nat) (Option.none : Option Jvm.ClassFile.FieldType)) ∈ lw_t := lw_m (lw_in_1 (List.mem_of_getElem? (i := 186) (by decide +kernel))) rfl
theorem mt_1_187 : (Jvm.Cond.methodLink "SourceDesk$Listing" (29 : Nat) ({ cls := "SourceDesk$Listing", name := "holds", desc := "(I)Z" } : Jvm.MethodName)) ∈ lw_t := lw_m (lw_in_1 (List.mem_of_getElem? (i := 187) (by decide +kernel))) rfl
theorem mt_1_188 : (Jvm.Cond.instanceMethod ({ cls := "SourceDesk$Listing", name := "holds", desc := "(I)Z" } : Jvm.MethodName)) ∈ lw_t := lw_m (lw_in_1 (List.mem_of_getElem? (i := 188) (by decide +kernel))) rfl
theorem mt_1_189 : (Jvm.Cond.selects "SourceDesk$Listing" ({ cls := "SourceDesk$Listing", name := "holds", desc := "(I)Z" } : Jvm.MethodName) ({ cls := "SourceDesk$Listing", name := "holds", desc := "(I)Z" } : Jvm.MethodName)) ∈ lw_t := lw_m (lw_in_1 (List.mem_of_getElem? (i := 189) (by decide +kernel))) rfl
theorem mt_1_190 : (Jvm.Cond.code ({ cls := "SourceDesk$Listing", name := "holds", desc := "(I)Z" } : Jvm.MethodName) prog_4_method_6_code (2 : Nat) (Option.some Jvm.ClassFile.FieldType.boolean)) ∈ lw_t := lw_m (lw_in_1 (List.mem_of_getElem? (i := 190) (by decide +kernel))) rfl
theorem mt_1_191 : (Jvm.Cond.methodLink "SourceDesk$Listing" (37 : Nat) ({ cls := "SourceDesk$Listing", name := "rise", desc := "(I)I" } : Jvm.MethodName)) ∈ lw_t := lw_m (lw_in_1 (List.mem_of_getElem? (i := 191) (by decide +kernel))) rfl
theorem mt_1_192 : (Jvm.Cond.static ({ cls := "SourceDesk$Listing", name := "rise", desc := "(I)I" } : Jvm.MethodName)) ∈ lw_t := lw_m (lw_in_1 (List.mem_of_getElem? (i := 192) (by decide +kernel))) rfl
theorem mt_1_193 : (Jvm.Cond.code ({ cls := "SourceDesk$Listing", name := "rise", desc := "(I)I" } : Jvm.MethodName) prog_4_method_4_code (1 : Nat) (Option.some Jvm.ClassFile.FieldType.int)) ∈ lw_t := lw_m (lw_in_1 (List.mem_of_getElem? (i := 193) (by decide +kernel))) rfl
theorem mt_1_194 : (Jvm.Cond.methodLink "SourceDesk" (57 : Nat) ({ cls := "SourceDesk$Listing", name := "size", desc := "()I" } : Jvm.MethodName)) ∈ lw_t := lw_m (lw_in_1 (List.mem_of_getElem? (i := 194) (by decide +kernel))) rfl
theorem mt_1_195 : (Jvm.Cond.instanceMethod ({ cls := "SourceDesk$Listing", name := "size", desc := "()I" } : Jvm.MethodName)) ∈ lw_t := lw_m (lw_in_1 (List.mem_of_getElem? (i := 195) (by decide +kernel))) rfl
theorem mt_1_196 : (Jvm.Cond.selects "SourceDesk$Listing" ({ cls := "SourceDesk$Listing", name := "size", desc := "()I" } : Jvm.MethodName) ({ cls := "SourceDesk$Listing", name := "size", desc := "()I" } : Jvm.MethodName)) ∈ lw_t := lw_m (lw_in_1 (List.mem_of_getElem? (i := 196) (by decide +kernel))) rfl
theorem mt_1_197 : (Jvm.Cond.code ({ cls := "SourceDesk$Listing", name := "size", desc := "()I" } : Jvm.MethodName) prog_4_method_5_code (1 : Nat) (Option.some Jvm.ClassFile.FieldType.int)) ∈ lw_t := lw_m (lw_in_1 (List.mem_of_getElem? (i := 197) (by decide +kernel))) rfl
theorem mt_1_202 : (Jvm.Cond.methodLink "SourceDesk" (61 : Nat) ({ cls := "SourceDesk$Listing", name := "holds", desc := "(I)Z" } : Jvm.MethodName)) ∈ lw_t := lw_m (lw_in_1 (List.mem_of_getElem? (i := 202) (by decide +kernel))) rfl
theorem mt_1_203 : (Jvm.Cond.methodLink "SourceDesk" (65 : Nat) ({ cls := "SourceDesk$Listing", name := "set", desc := "(III)V" } : Jvm.MethodName)) ∈ lw_t := lw_m (lw_in_1 (List.mem_of_getElem? (i := 203) (by decide +kernel))) rfl
theorem mt_1_208 : (Jvm.Cond.methodLink "SourceDesk" (69 : Nat) ({ cls := "SourceDesk$Listing", name := "drop", desc := "()V" } : Jvm.MethodName)) ∈ lw_t := lw_m (lw_in_1 (List.mem_of_getElem? (i := 208) (by decide +kernel))) rfl
theorem mt_1_209 : (Jvm.Cond.instanceMethod ({ cls := "SourceDesk$Listing", name := "drop", desc := "()V" } : Jvm.MethodName)) ∈ lw_t := lw_m (lw_in_1 (List.mem_of_getElem? (i := 209) (by decide +kernel))) rfl
theorem mt_1_210 : (Jvm.Cond.selects "SourceDesk$Listing" ({ cls := "SourceDesk$Listing", name := "drop", desc := "()V" } : Jvm.MethodName) ({ cls := "SourceDesk$Listing", name := "drop", desc := "()V" } : Jvm.MethodName)) ∈ lw_t := lw_m (lw_in_1 (List.mem_of_getElem? (i := 210) (by decide +kernel))) rfl
theorem mt_1_211 : (Jvm.Cond.code ({ cls := "SourceDesk$Listing", name := "drop", desc := "()V" } : Jvm.MethodName) prog_4_method_12_code (1 : Nat) (Option.none : Option Jvm.ClassFile.FieldType)) ∈ lw_t := lw_m (lw_in_1 (List.mem_of_getElem? (i := 211) (by decide +kernel))) rfl
theorem mt_1_212 : (Jvm.Cond.methodLink "SourceDesk" (72 : Nat) ({ cls := "SourceDesk$Draft", name := "row", desc := "()LSourceDesk$Characters;" } : Jvm.MethodName)) ∈ lw_t := lw_m (lw_in_1 (List.mem_of_getElem? (i := 212) (by decide +kernel))) rfl
theorem mt_1_213 : (Jvm.Cond.instanceMethod ({ cls := "SourceDesk$Draft", name := "row", desc := "()LSourceDesk$Characters;" } : Jvm.MethodName)) ∈ lw_t := lw_m (lw_in_1 (List.mem_of_getElem? (i := 213) (by decide +kernel))) rfl
theorem mt_1_214 : (Jvm.Cond.selects "SourceDesk$Draft" ({ cls := "SourceDesk$Draft", name := "row", desc := "()LSourceDesk$Characters;" } : Jvm.MethodName) ({ cls := "SourceDesk$Draft", name := "row", desc := "()LSourceDesk$Characters;" } : Jvm.MethodName)) ∈ lw_t := lw_m (lw_in_1 (List.mem_of_getElem? (i := 214) (by decide +kernel))) rfl
theorem mt_1_215 : (Jvm.Cond.code ({ cls := "SourceDesk$Draft", name := "row", desc := "()LSourceDesk$Characters;" } : Jvm.MethodName) prog_3_method_2_code (1 : Nat) (Option.some (Jvm.ClassFile.FieldType.object "SourceDesk$Characters"))) ∈ lw_t := lw_m (lw_in_1 (List.mem_of_getElem? (i := 215) (by decide +kernel))) rfl
theorem mt_1_216 : (Jvm.Cond.methodLink "SourceDesk" (76 : Nat) ({ cls := "SourceDesk$Characters", name := "size", desc := "()I" } : Jvm.MethodName)) ∈ lw_t := lw_m (lw_in_1 (List.mem_of_getElem? (i := 216) (by decide +kernel))) rfl
theorem mt_1_217 : (Jvm.Cond.instanceMethod ({ cls := "SourceDesk$Characters", name := "size", desc := "()I" } : Jvm.MethodName)) ∈ lw_t := lw_m (lw_in_1 (List.mem_of_getElem? (i := 217) (by decide +kernel))) rfl
theorem mt_1_218 : (Jvm.Cond.selects "SourceDesk$Characters" ({ cls := "SourceDesk$Characters", name := "size", desc := "()I" } : Jvm.MethodName) ({ cls := "SourceDesk$Characters", name := "size", desc := "()I" } : Jvm.MethodName)) ∈ lw_t := lw_m (lw_in_1 (List.mem_of_getElem? (i := 218) (by decide +kernel))) rfl
theorem mt_1_219 : (Jvm.Cond.code ({ cls := "SourceDesk$Characters", name := "size", desc := "()I" } : Jvm.MethodName) prog_2_method_2_code (1 : Nat) (Option.some Jvm.ClassFile.FieldType.int)) ∈ lw_t := lw_m (lw_in_1 (List.mem_of_getElem? (i := 219) (by decide +kernel))) rfl
theorem mt_1_220 : (Jvm.Cond.methodLink "SourceDesk" (77 : Nat) ({ cls := "SourceDesk$Characters", name := "drop", desc := "()V" } : Jvm.MethodName)) ∈ lw_t := lw_m (lw_in_1 (List.mem_of_getElem? (i := 220) (by decide +kernel))) rfl
theorem mt_1_221 : (Jvm.Cond.instanceMethod ({ cls := "SourceDesk$Characters", name := "drop", desc := "()V" } : Jvm.MethodName)) ∈ lw_t := lw_m (lw_in_1 (List.mem_of_getElem? (i := 221) (by decide +kernel))) rfl
theorem mt_1_222 : (Jvm.Cond.selects "SourceDesk$Characters" ({ cls := "SourceDesk$Characters", name := "drop", desc := "()V" } : Jvm.MethodName) ({ cls := "SourceDesk$Characters", name := "drop", desc := "()V" } : Jvm.MethodName)) ∈ lw_t := lw_m (lw_in_1 (List.mem_of_getElem? (i := 222) (by decide +kernel))) rfl
theorem mt_1_223 : (Jvm.Cond.code ({ cls := "SourceDesk$Characters", name := "drop", desc := "()V" } : Jvm.MethodName) prog_2_method_5_code (1 : Nat) (Option.none : Option Jvm.ClassFile.FieldType)) ∈ lw_t := lw_m (lw_in_1 (List.mem_of_getElem? (i := 223) (by decide +kernel))) rfl
theorem mt_1_228 : (Jvm.Cond.methodLink "SourceDesk" (78 : Nat) ({ cls := "SourceDesk$Listing", name := "heightBefore", desc := "(I)I" } : Jvm.MethodName)) ∈ lw_t := lw_m (lw_in_1 (List.mem_of_getElem? (i := 228) (by decide +kernel))) rfl
theorem mt_1_229 : (Jvm.Cond.instanceMethod ({ cls := "SourceDesk$Listing", name := "heightBefore", desc := "(I)I" } : Jvm.MethodName)) ∈ lw_t := lw_m (lw_in_1 (List.mem_of_getElem? (i := 229) (by decide +kernel))) rfl
theorem mt_1_230 : (Jvm.Cond.selects "SourceDesk$Listing" ({ cls := "SourceDesk$Listing", name := "heightBefore", desc := "(I)I" } : Jvm.MethodName) ({ cls := "SourceDesk$Listing", name := "heightBefore", desc := "(I)I" } : Jvm.MethodName)) ∈ lw_t := lw_m (lw_in_1 (List.mem_of_getElem? (i := 230) (by decide +kernel))) rfl
theorem mt_1_231 : (Jvm.Cond.code ({ cls := "SourceDesk$Listing", name := "heightBefore", desc := "(I)I" } : Jvm.MethodName) prog_4_method_9_code (2 : Nat) (Option.some Jvm.ClassFile.FieldType.int)) ∈ lw_t := lw_m (lw_in_1 (List.mem_of_getElem? (i := 231) (by decide +kernel))) rfl
theorem mt_1_232 : (Jvm.Cond.methodLink "SourceDesk" (82 : Nat) ({ cls := "SourceDesk$Listing", name := "op", desc := "(I)I" } : Jvm.MethodName)) ∈ lw_t := lw_m (lw_in_1 (List.mem_of_getElem? (i := 232) (by decide +kernel))) rfl
theorem mt_1_233 : (Jvm.Cond.instanceMethod ({ cls := "SourceDesk$Listing", name := "op", desc := "(I)I" } : Jvm.MethodName)) ∈ lw_t := lw_m (lw_in_1 (List.mem_of_getElem? (i := 233) (by decide +kernel))) rfl
theorem mt_1_234 : (Jvm.Cond.selects "SourceDesk$Listing" ({ cls := "SourceDesk$Listing", name := "op", desc := "(I)I" } : Jvm.MethodName) ({ cls := "SourceDesk$Listing", name := "op", desc := "(I)I" } : Jvm.MethodName)) ∈ lw_t := lw_m (lw_in_1 (List.mem_of_getElem? (i := 234) (by decide +kernel))) rfl
theorem mt_1_235 : (Jvm.Cond.code ({ cls := "SourceDesk$Listing", name := "op", desc := "(I)I" } : Jvm.MethodName) prog_4_method_7_code (2 : Nat) (Option.some Jvm.ClassFile.FieldType.int)) ∈ lw_t := lw_m (lw_in_1 (List.mem_of_getElem? (i := 235) (by decide +kernel))) rfl
theorem mt_1_236 : (Jvm.Cond.methodLink "SourceDesk" (85 : Nat) ({ cls := "SourceDesk$Listing", name := "number", desc := "(I)I" } : Jvm.MethodName)) ∈ lw_t := lw_m (lw_in_1 (List.mem_of_getElem? (i := 236) (by decide +kernel))) rfl
theorem mt_1_237 : (Jvm.Cond.instanceMethod ({ cls := "SourceDesk$Listing", name := "number", desc := "(I)I" } : Jvm.MethodName)) ∈ lw_t := lw_m (lw_in_1 (List.mem_of_getElem? (i := 237) (by decide +kernel))) rfl
theorem mt_1_238 : (Jvm.Cond.selects "SourceDesk$Listing" ({ cls := "SourceDesk$Listing", name := "number", desc := "(I)I" } : Jvm.MethodName) ({ cls := "SourceDesk$Listing", name := "number", desc := "(I)I" } : Jvm.MethodName)) ∈ lw_t := lw_m (lw_in_1 (List.mem_of_getElem? (i := 238) (by decide +kernel))) rfl
theorem mt_1_239 : (Jvm.Cond.code ({ cls := "SourceDesk$Listing", name := "number", desc := "(I)I" } : Jvm.MethodName) prog_4_method_8_code (2 : Nat) (Option.some Jvm.ClassFile.FieldType.int)) ∈ lw_t := lw_m (lw_in_1 (List.mem_of_getElem? (i := 239) (by decide +kernel))) rfl
theorem mt_2_4 : (Jvm.Cond.methodLink "SourceDesk" (88 : Nat) ({ cls := "SourceDesk$Listing", name := "leastWrong", desc := "()I" } : Jvm.MethodName)) ∈ lw_t := lw_m (lw_in_2 (List.mem_of_getElem? (i := 4) (by decide +kernel))) rfl
theorem mt_2_5 : (Jvm.Cond.instanceMethod ({ cls := "SourceDesk$Listing", name := "leastWrong", desc := "()I" } : Jvm.MethodName)) ∈ lw_t := lw_m (lw_in_2 (List.mem_of_getElem? (i := 5) (by decide +kernel))) rfl
theorem mt_2_6 : (Jvm.Cond.selects "SourceDesk$Listing" ({ cls := "SourceDesk$Listing", name := "leastWrong", desc := "()I" } : Jvm.MethodName) ({ cls := "SourceDesk$Listing", name := "leastWrong", desc := "()I" } : Jvm.MethodName)) ∈ lw_t := lw_m (lw_in_2 (List.mem_of_getElem? (i := 6) (by decide +kernel))) rfl
theorem mt_2_7 : (Jvm.Cond.code ({ cls := "SourceDesk$Listing", name := "leastWrong", desc := "()I" } : Jvm.MethodName) prog_4_method_14_code (2 : Nat) (Option.some Jvm.ClassFile.FieldType.int)) ∈ lw_t := lw_m (lw_in_2 (List.mem_of_getElem? (i := 7) (by decide +kernel))) rfl
theorem mt_2_8 : (Jvm.Cond.methodLink "SourceDesk$Listing" (52 : Nat) ({ cls := "SourceDesk$Listing", name := "isWrong", desc := "(I)Z" } : Jvm.MethodName)) ∈ lw_t := lw_m (lw_in_2 (List.mem_of_getElem? (i := 8) (by decide +kernel))) rfl
theorem mt_2_10 : (Jvm.Cond.instanceMethod ({ cls := "SourceDesk$Listing", name := "isWrong", desc := "(I)Z" } : Jvm.MethodName)) ∈ lw_t := lw_m (lw_in_2 (List.mem_of_getElem? (i := 10) (by decide +kernel))) rfl
theorem mt_2_11 : (Jvm.Cond.code ({ cls := "SourceDesk$Listing", name := "isWrong", desc := "(I)Z" } : Jvm.MethodName) prog_4_method_15_code (3 : Nat) (Option.some Jvm.ClassFile.FieldType.boolean)) ∈ lw_t := lw_m (lw_in_2 (List.mem_of_getElem? (i := 11) (by decide +kernel))) rfl
theorem mt_2_12 : (Jvm.Cond.methodLink "SourceDesk$Listing" (55 : Nat) ({ cls := "SourceDesk$Listing", name := "heightBefore", desc := "(I)I" } : Jvm.MethodName)) ∈ lw_t := lw_m (lw_in_2 (List.mem_of_getElem? (i := 12) (by decide +kernel))) rfl
theorem mt_2_13 : (Jvm.Cond.methodLink "SourceDesk$Listing" (58 : Nat) ({ cls := "SourceDesk$Listing", name := "op", desc := "(I)I" } : Jvm.MethodName)) ∈ lw_t := lw_m (lw_in_2 (List.mem_of_getElem? (i := 13) (by decide +kernel))) rfl
theorem mt_2_14 : (Jvm.Cond.methodLink "SourceDesk$Listing" (61 : Nat) ({ cls := "SourceDesk$Listing", name := "number", desc := "(I)I" } : Jvm.MethodName)) ∈ lw_t := lw_m (lw_in_2 (List.mem_of_getElem? (i := 14) (by decide +kernel))) rfl
theorem mt_2_15 : (Jvm.Cond.methodLink "SourceDesk$Listing" (64 : Nat) ({ cls := "SourceDesk$Listing", name := "isLanding", desc := "(I)Z" } : Jvm.MethodName)) ∈ lw_t := lw_m (lw_in_2 (List.mem_of_getElem? (i := 15) (by decide +kernel))) rfl
theorem mt_2_17 : (Jvm.Cond.instanceMethod ({ cls := "SourceDesk$Listing", name := "isLanding", desc := "(I)Z" } : Jvm.MethodName)) ∈ lw_t := lw_m (lw_in_2 (List.mem_of_getElem? (i := 17) (by decide +kernel))) rfl
theorem mt_2_18 : (Jvm.Cond.code ({ cls := "SourceDesk$Listing", name := "isLanding", desc := "(I)Z" } : Jvm.MethodName) prog_4_method_16_code (2 : Nat) (Option.some Jvm.ClassFile.FieldType.boolean)) ∈ lw_t := lw_m (lw_in_2 (List.mem_of_getElem? (i := 18) (by decide +kernel))) rfl
theorem mt_2_23 : (Jvm.Cond.methodLink "SourceDesk" (91 : Nat) ({ cls := "SourceDesk$Tree", name := "drop", desc := "()V" } : Jvm.MethodName)) ∈ lw_t := lw_m (lw_in_2 (List.mem_of_getElem? (i := 23) (by decide +kernel))) rfl
theorem mt_2_24 : (Jvm.Cond.instanceMethod ({ cls := "SourceDesk$Tree", name := "drop", desc := "()V" } : Jvm.MethodName)) ∈ lw_t := lw_m (lw_in_2 (List.mem_of_getElem? (i := 24) (by decide +kernel))) rfl
theorem mt_2_25 : (Jvm.Cond.selects "SourceDesk$Tree" ({ cls := "SourceDesk$Tree", name := "drop", desc := "()V" } : Jvm.MethodName) ({ cls := "SourceDesk$Tree", name := "drop", desc := "()V" } : Jvm.MethodName)) ∈ lw_t := lw_m (lw_in_2 (List.mem_of_getElem? (i := 25) (by decide +kernel))) rfl
theorem mt_2_26 : (Jvm.Cond.code ({ cls := "SourceDesk$Tree", name := "drop", desc := "()V" } : Jvm.MethodName) prog_7_method_2_code (1 : Nat) (Option.none : Option Jvm.ClassFile.FieldType)) ∈ lw_t := lw_m (lw_in_2 (List.mem_of_getElem? (i := 26) (by decide +kernel))) rfl
theorem mt_2_27 : (Jvm.Cond.methodLink "SourceDesk" (92 : Nat) ({ cls := "SourceDesk$Tree", name := "make", desc := "(LSourceDesk$Listing;)I" } : Jvm.MethodName)) ∈ lw_t := lw_m (lw_in_2 (List.mem_of_getElem? (i := 27) (by decide +kernel))) rfl
theorem mt_2_28 : (Jvm.Cond.instanceMethod ({ cls := "SourceDesk$Tree", name := "make", desc := "(LSourceDesk$Listing;)I" } : Jvm.MethodName)) ∈ lw_t := lw_m (lw_in_2 (List.mem_of_getElem? (i := 28) (by decide +kernel))) rfl
theorem mt_2_29 : (Jvm.Cond.selects "SourceDesk$Tree" ({ cls := "SourceDesk$Tree", name := "make", desc := "(LSourceDesk$Listing;)I" } : Jvm.MethodName) ({ cls := "SourceDesk$Tree", name := "make", desc := "(LSourceDesk$Listing;)I" } : Jvm.MethodName)) ∈ lw_t := lw_m (lw_in_2 (List.mem_of_getElem? (i := 29) (by decide +kernel))) rfl
theorem mt_2_30 : (Jvm.Cond.code ({ cls := "SourceDesk$Tree", name := "make", desc := "(LSourceDesk$Listing;)I" } : Jvm.MethodName) prog_7_method_3_code (2 : Nat) (Option.some Jvm.ClassFile.FieldType.int)) ∈ lw_t := lw_m (lw_in_2 (List.mem_of_getElem? (i := 30) (by decide +kernel))) rfl
theorem mt_2_31 : (Jvm.Cond.methodLink "SourceDesk$Tree" (59 : Nat) ({ cls := "SourceDesk$Tree", name := "drop", desc := "()V" } : Jvm.MethodName)) ∈ lw_t := lw_m (lw_in_2 (List.mem_of_getElem? (i := 31) (by decide +kernel))) rfl
theorem mt_2_32 : (Jvm.Cond.methodLink "SourceDesk$Tree" (62 : Nat) ({ cls := "SourceDesk$Listing", name := "become", desc := "(LSourceDesk$Listing;)V" } : Jvm.MethodName)) ∈ lw_t := lw_m (lw_in_2 (List.mem_of_getElem? (i := 32) (by decide +kernel))) rfl
theorem mt_2_33 : (Jvm.Cond.instanceMethod ({ cls := "SourceDesk$Listing", name := "become", desc := "(LSourceDesk$Listing;)V" } : Jvm.MethodName)) ∈ lw_t := lw_m (lw_in_2 (List.mem_of_getElem? (i := 33) (by decide +kernel))) rfl
theorem mt_2_34 : (Jvm.Cond.selects "SourceDesk$Listing" ({ cls := "SourceDesk$Listing", name := "become", desc := "(LSourceDesk$Listing;)V" } : Jvm.MethodName) ({ cls := "SourceDesk$Listing", name := "become", desc := "(LSourceDesk$Listing;)V" } : Jvm.MethodName)) ∈ lw_t := lw_m (lw_in_2 (List.mem_of_getElem? (i := 34) (by decide +kernel))) rfl
theorem mt_2_35 : (Jvm.Cond.code ({ cls := "SourceDesk$Listing", name := "become", desc := "(LSourceDesk$Listing;)V" } : Jvm.MethodName) prog_4_method_13_code (2 : Nat) (Option.none : Option Jvm.ClassFile.FieldType)) ∈ lw_t := lw_m (lw_in_2 (List.mem_of_getElem? (i := 35) (by decide +kernel))) rfl
theorem mt_2_36 : (Jvm.Cond.methodLink "SourceDesk$Listing" (40 : Nat) ({ cls := "java/lang/Math", name := "min", desc := "(II)I" } : Jvm.MethodName)) ∈ lw_t := lw_m (lw_in_2 (List.mem_of_getElem? (i := 36) (by decide +kernel))) rfl
theorem mt_2_37 : (Jvm.Cond.static ({ cls := "java/lang/Math", name := "min", desc := "(II)I" } : Jvm.MethodName)) ∈ lw_t := lw_m (lw_in_2 (List.mem_of_getElem? (i := 37) (by decide +kernel))) rfl
theorem mt_2_38 : (Jvm.Cond.code ({ cls := "java/lang/Math", name := "min", desc := "(II)I" } : Jvm.MethodName) prog_11_method_69_code (2 : Nat) (Option.some Jvm.ClassFile.FieldType.int)) ∈ lw_t := lw_m (lw_in_2 (List.mem_of_getElem? (i := 38) (by decide +kernel))) rfl
theorem mt_2_39 : (Jvm.Cond.methodLink "SourceDesk$Listing" (46 : Nat) ({ cls := "java/lang/System", name := "arraycopy", desc := "(Ljava/lang/Object;ILjava/lang/Object;II)V" } : Jvm.MethodName)) ∈ lw_t := lw_m (lw_in_2 (List.mem_of_getElem? (i := 39) (by decide +kernel))) rfl
theorem mt_2_40 : (Jvm.Cond.static ({ cls := "java/lang/System", name := "arraycopy", desc := "(Ljava/lang/Object;ILjava/lang/Object;II)V" } : Jvm.MethodName)) ∈ lw_t := lw_m (lw_in_2 (List.mem_of_getElem? (i := 40) (by decide +kernel))) rfl
theorem mt_2_41 : (Jvm.Cond.native ({ cls := "java/lang/System", name := "arraycopy", desc := "(Ljava/lang/Object;ILjava/lang/Object;II)V" } : Jvm.MethodName)) ∈ lw_t := lw_m (lw_in_2 (List.mem_of_getElem? (i := 41) (by decide +kernel))) rfl
theorem mt_2_42 : (Jvm.Cond.methodLink "SourceDesk$Tree" (66 : Nat) ({ cls := "SourceDesk$Listing", name := "size", desc := "()I" } : Jvm.MethodName)) ∈ lw_t := lw_m (lw_in_2 (List.mem_of_getElem? (i := 42) (by decide +kernel))) rfl
theorem mt_2_43 : (Jvm.Cond.methodLink "SourceDesk$Tree" (69 : Nat) ({ cls := "SourceDesk$Tree", name := "grow", desc := "(III)I" } : Jvm.MethodName)) ∈ lw_t := lw_m (lw_in_2 (List.mem_of_getElem? (i := 43) (by decide +kernel))) rfl
theorem mt_2_45 : (Jvm.Cond.instanceMethod ({ cls := "SourceDesk$Tree", name := "grow", desc := "(III)I" } : Jvm.MethodName)) ∈ lw_t := lw_m (lw_in_2 (List.mem_of_getElem? (i := 45) (by decide +kernel))) rfl
theorem mt_2_46 : (Jvm.Cond.code ({ cls := "SourceDesk$Tree", name := "grow", desc := "(III)I" } : Jvm.MethodName) prog_7_method_4_code (9 : Nat) (Option.some Jvm.ClassFile.FieldType.int)) ∈ lw_t := lw_m (lw_in_2 (List.mem_of_getElem? (i := 46) (by decide +kernel))) rfl
theorem mt_2_47 : (Jvm.Cond.methodLink "SourceDesk$Tree" (73 : Nat) ({ cls := "SourceDesk$Tree", name := "growStatement", desc := "(III)I" } : Jvm.MethodName)) ∈ lw_t := lw_m (lw_in_2 (List.mem_of_getElem? (i := 47) (by decide +kernel))) rfl
theorem mt_2_49 : (Jvm.Cond.instanceMethod ({ cls := "SourceDesk$Tree", name := "growStatement", desc := "(III)I" } : Jvm.MethodName)) ∈ lw_t := lw_m (lw_in_2 (List.mem_of_getElem? (i := 49) (by decide +kernel))) rfl
theorem mt_2_50 : (Jvm.Cond.code ({ cls := "SourceDesk$Tree", name := "growStatement", desc := "(III)I" } : Jvm.MethodName) prog_7_method_5_code (6 : Nat) (Option.some Jvm.ClassFile.FieldType.int)) ∈ lw_t := lw_m (lw_in_2 (List.mem_of_getElem? (i := 50) (by decide +kernel))) rfl
theorem mt_2_51 : (Jvm.Cond.methodLink "SourceDesk$Tree" (76 : Nat) ({ cls := "SourceDesk$Tree", name := "endOfExpression", desc := "(I)I" } : Jvm.MethodName)) ∈ lw_t := lw_m (lw_in_2 (List.mem_of_getElem? (i := 51) (by decide +kernel))) rfl
theorem mt_2_53 : (Jvm.Cond.instanceMethod ({ cls := "SourceDesk$Tree", name := "endOfExpression", desc := "(I)I" } : Jvm.MethodName)) ∈ lw_t := lw_m (lw_in_2 (List.mem_of_getElem? (i := 53) (by decide +kernel))) rfl
theorem mt_2_54 : (Jvm.Cond.code ({ cls := "SourceDesk$Tree", name := "endOfExpression", desc := "(I)I" } : Jvm.MethodName) prog_7_method_9_code (3 : Nat) (Option.some Jvm.ClassFile.FieldType.int)) ∈ lw_t := lw_m (lw_in_2 (List.mem_of_getElem? (i := 54) (by decide +kernel))) rfl
theorem mt_2_55 : (Jvm.Cond.methodLink "SourceDesk$Tree" (80 : Nat) ({ cls := "SourceDesk$Listing", name := "op", desc := "(I)I" } : Jvm.MethodName)) ∈ lw_t := lw_m (lw_in_2 (List.mem_of_getElem? (i := 55) (by decide +kernel))) rfl
theorem mt_2_56 : (Jvm.Cond.methodLink "SourceDesk$Tree" (103 : Nat) ({ cls := "SourceDesk$Tree", name := "isPart", desc := "(I)Z" } : Jvm.MethodName)) ∈ lw_t := lw_m (lw_in_2 (List.mem_of_getElem? (i := 56) (by decide +kernel))) rfl
theorem mt_2_57 : (Jvm.Cond.static ({ cls := "SourceDesk$Tree", name := "isPart", desc := "(I)Z" } : Jvm.MethodName)) ∈ lw_t := lw_m (lw_in_2 (List.mem_of_getElem? (i := 57) (by decide +kernel))) rfl
theorem mt_2_58 : (Jvm.Cond.code ({ cls := "SourceDesk$Tree", name := "isPart", desc := "(I)Z" } : Jvm.MethodName) prog_7_method_10_code (1 : Nat) (Option.some Jvm.ClassFile.FieldType.boolean)) ∈ lw_t := lw_m (lw_in_2 (List.mem_of_getElem? (i := 58) (by decide +kernel))) rfl
theorem mt_2_59 : (Jvm.Cond.methodLink "SourceDesk$Tree" (107 : Nat) ({ cls := "SourceDesk$Tree", name := "beginOf", desc := "(I)I" } : Jvm.MethodName)) ∈ lw_t := lw_m (lw_in_2 (List.mem_of_getElem? (i := 59) (by decide +kernel))) rfl
theorem mt_2_61 : (Jvm.Cond.instanceMethod ({ cls := "SourceDesk$Tree", name := "beginOf", desc := "(I)I" } : Jvm.MethodName)) ∈ lw_t := lw_m (lw_in_2 (List.mem_of_getElem? (i := 61) (by decide +kernel))) rfl
theorem mt_2_62 : (Jvm.Cond.code ({ cls := "SourceDesk$Tree", name := "beginOf", desc := "(I)I" } : Jvm.MethodName) prog_7_method_11_code (4 : Nat) (Option.some Jvm.ClassFile.FieldType.int)) ∈ lw_t := lw_m (lw_in_2 (List.mem_of_getElem? (i := 62) (by decide +kernel))) rfl
theorem mt_2_63 : (Jvm.Cond.methodLink "SourceDesk$Tree" (110 : Nat) ({ cls := "SourceDesk$Tree", name := "leftOf", desc := "(I)I" } : Jvm.MethodName)) ∈ lw_t := lw_m (lw_in_2 (List.mem_of_getElem? (i := 63) (by decide +kernel))) rfl
theorem mt_2_64 : (Jvm.Cond.instanceMethod ({ cls := "SourceDesk$Tree", name := "leftOf", desc := "(I)I" } : Jvm.MethodName)) ∈ lw_t := lw_m (lw_in_2 (List.mem_of_getElem? (i := 64) (by decide +kernel))) rfl
theorem mt_2_65 : (Jvm.Cond.selects "SourceDesk$Tree" ({ cls := "SourceDesk$Tree", name := "leftOf", desc := "(I)I" } : Jvm.MethodName) ({ cls := "SourceDesk$Tree", name := "leftOf", desc := "(I)I" } : Jvm.MethodName)) ∈ lw_t := lw_m (lw_in_2 (List.mem_of_getElem? (i := 65) (by decide +kernel))) rfl
theorem mt_2_66 : (Jvm.Cond.code ({ cls := "SourceDesk$Tree", name := "leftOf", desc := "(I)I" } : Jvm.MethodName) prog_7_method_12_code (2 : Nat) (Option.some Jvm.ClassFile.FieldType.int)) ∈ lw_t := lw_m (lw_in_2 (List.mem_of_getElem? (i := 66) (by decide +kernel))) rfl
theorem mt_2_67 : (Jvm.Cond.methodLink "SourceDesk$Tree" (83 : Nat) ({ cls := "SourceDesk$Tree", name := "growBranch", desc := "(IIII)I" } : Jvm.MethodName)) ∈ lw_t := lw_m (lw_in_2 (List.mem_of_getElem? (i := 67) (by decide +kernel))) rfl
theorem mt_2_69 : (Jvm.Cond.instanceMethod ({ cls := "SourceDesk$Tree", name := "growBranch", desc := "(IIII)I" } : Jvm.MethodName)) ∈ lw_t := lw_m (lw_in_2 (List.mem_of_getElem? (i := 69) (by decide +kernel))) rfl
theorem mt_2_70 : (Jvm.Cond.code ({ cls := "SourceDesk$Tree", name := "growBranch", desc := "(IIII)I" } : Jvm.MethodName) prog_7_method_6_code (13 : Nat) (Option.some Jvm.ClassFile.FieldType.int)) ∈ lw_t := lw_m (lw_in_2 (List.mem_of_getElem? (i := 70) (by decide +kernel))) rfl
theorem mt_2_71 : (Jvm.Cond.methodLink "SourceDesk$Tree" (94 : Nat) ({ cls := "SourceDesk$Listing", name := "number", desc := "(I)I" } : Jvm.MethodName)) ∈ lw_t := lw_m (lw_in_2 (List.mem_of_getElem? (i := 71) (by decide +kernel))) rfl
theorem mt_2_72 : (Jvm.Cond.methodLink "SourceDesk$Tree" (91 : Nat) ({ cls := "SourceDesk$Tree", name := "tie", desc := "(I)I" } : Jvm.MethodName)) ∈ lw_t := lw_m (lw_in_2 (List.mem_of_getElem? (i := 72) (by decide +kernel))) rfl
theorem mt_2_74 : (Jvm.Cond.instanceMethod ({ cls := "SourceDesk$Tree", name := "tie", desc := "(I)I" } : Jvm.MethodName)) ∈ lw_t := lw_m (lw_in_2 (List.mem_of_getElem? (i := 74) (by decide +kernel))) rfl
theorem mt_2_75 : (Jvm.Cond.code ({ cls := "SourceDesk$Tree", name := "tie", desc := "(I)I" } : Jvm.MethodName) prog_7_method_7_code (2 : Nat) (Option.some Jvm.ClassFile.FieldType.int)) ∈ lw_t := lw_m (lw_in_2 (List.mem_of_getElem? (i := 75) (by decide +kernel))) rfl
theorem mt_2_76 : (Jvm.Cond.methodLink "SourceDesk$Tree" (87 : Nat) ({ cls := "SourceDesk$Tree", name := "add", desc := "(IIIII)I" } : Jvm.MethodName)) ∈ lw_t := lw_m (lw_in_2 (List.mem_of_getElem? (i := 76) (by decide +kernel))) rfl
theorem mt_2_78 : (Jvm.Cond.instanceMethod ({ cls := "SourceDesk$Tree", name := "add", desc := "(IIIII)I" } : Jvm.MethodName)) ∈ lw_t := lw_m (lw_in_2 (List.mem_of_getElem? (i := 78) (by decide +kernel))) rfl
theorem mt_2_79 : (Jvm.Cond.code ({ cls := "SourceDesk$Tree", name := "add", desc := "(IIIII)I" } : Jvm.MethodName) prog_7_method_8_code (7 : Nat) (Option.some Jvm.ClassFile.FieldType.int)) ∈ lw_t := lw_m (lw_in_2 (List.mem_of_getElem? (i := 79) (by decide +kernel))) rfl
theorem mt_2_80 : (Jvm.Cond.methodLink "SourceDesk$Tree" (97 : Nat) ({ cls := "java/lang/Math", name := "max", desc := "(II)I" } : Jvm.MethodName)) ∈ lw_t := lw_m (lw_in_2 (List.mem_of_getElem? (i := 80) (by decide +kernel))) rfl
theorem mt_2_81 : (Jvm.Cond.static ({ cls := "java/lang/Math", name := "max", desc := "(II)I" } : Jvm.MethodName)) ∈ lw_t := lw_m (lw_in_2 (List.mem_of_getElem? (i := 81) (by decide +kernel))) rfl
theorem mt_2_82 : (Jvm.Cond.code ({ cls := "java/lang/Math", name := "max", desc := "(II)I" } : Jvm.MethodName) prog_11_method_65_code (2 : Nat) (Option.some Jvm.ClassFile.FieldType.int)) ∈ lw_t := lw_m (lw_in_2 (List.mem_of_getElem? (i := 82) (by decide +kernel))) rfl
theorem mt_2_83 : (Jvm.Cond.methodLink "SourceDesk" (96 : Nat) ({ cls := "SourceDesk$Scribe", name := "write", desc := "(LSourceDesk$Tree;LSourceDesk$Characters;)V" } : Jvm.MethodName)) ∈ lw_t := lw_m (lw_in_2 (List.mem_of_getElem? (i := 83) (by decide +kernel))) rfl
theorem mt_2_84 : (Jvm.Cond.static ({ cls := "SourceDesk$Scribe", name := "write", desc := "(LSourceDesk$Tree;LSourceDesk$Characters;)V" } : Jvm.MethodName)) ∈ lw_t := lw_m (lw_in_2 (List.mem_of_getElem? (i := 84) (by decide +kernel))) rfl
theorem mt_2_85 : (Jvm.Cond.code ({ cls := "SourceDesk$Scribe", name := "write", desc := "(LSourceDesk$Tree;LSourceDesk$Characters;)V" } : Jvm.MethodName) prog_6_method_2_code (2 : Nat) (Option.none : Option Jvm.ClassFile.FieldType)) ∈ lw_t := lw_m (lw_in_2 (List.mem_of_getElem? (i := 85) (by decide +kernel))) rfl
theorem mt_2_86 : (Jvm.Cond.methodLink "SourceDesk$Scribe" (9 : Nat) ({ cls := "SourceDesk$Characters", name := "drop", desc := "()V" } : Jvm.MethodName)) ∈ lw_t := lw_m (lw_in_2 (List.mem_of_getElem? (i := 86) (by decide +kernel))) rfl
theorem mt_2_87 : (Jvm.Cond.methodLink "SourceDesk$Scribe" (14 : Nat) ({ cls := "SourceDesk$Tree", name := "first", desc := "()I" } : Jvm.MethodName)) ∈ lw_t := lw_m (lw_in_2 (List.mem_of_getElem? (i := 87) (by decide +kernel))) rfl
theorem mt_2_88 : (Jvm.Cond.instanceMethod ({ cls := "SourceDesk$Tree", name := "first", desc := "()I" } : Jvm.MethodName)) ∈ lw_t := lw_m (lw_in_2 (List.mem_of_getElem? (i := 88) (by decide +kernel))) rfl
theorem mt_2_89 : (Jvm.Cond.selects "SourceDesk$Tree" ({ cls := "SourceDesk$Tree", name := "first", desc := "()I" } : Jvm.MethodName) ({ cls := "SourceDesk$Tree", name := "first", desc := "()I" } : Jvm.MethodName)) ∈ lw_t := lw_m (lw_in_2 (List.mem_of_getElem? (i := 89) (by decide +kernel))) rfl
theorem mt_2_90 : (Jvm.Cond.code ({ cls := "SourceDesk$Tree", name := "first", desc := "()I" } : Jvm.MethodName) prog_7_method_17_code (1 : Nat) (Option.some Jvm.ClassFile.FieldType.int)) ∈ lw_t := lw_m (lw_in_2 (List.mem_of_getElem? (i := 90) (by decide +kernel))) rfl
theorem mt_2_91 : (Jvm.Cond.methodLink "SourceDesk$Scribe" (20 : Nat) ({ cls := "SourceDesk$Scribe", name := "writeFrom", desc := "(LSourceDesk$Tree;LSourceDesk$Characters;II)V" } : Jvm.MethodName)) ∈ lw_t := lw_m (lw_in_2 (List.mem_of_getElem? (i := 91) (by decide +kernel))) rfl
theorem mt_2_92 : (Jvm.Cond.static ({ cls := "SourceDesk$Scribe", name := "writeFrom", desc := "(LSourceDesk$Tree;LSourceDesk$Characters;II)V" } : Jvm.MethodName)) ∈ lw_t := lw_m (lw_in_2 (List.mem_of_getElem? (i := 92) (by decide +kernel))) rfl
theorem mt_2_93 : (Jvm.Cond.code ({ cls := "SourceDesk$Scribe", name := "writeFrom", desc := "(LSourceDesk$Tree;LSourceDesk$Characters;II)V" } : Jvm.MethodName) prog_6_method_3_code (6 : Nat) (Option.none : Option Jvm.ClassFile.FieldType)) ∈ lw_t := lw_m (lw_in_2 (List.mem_of_getElem? (i := 93) (by decide +kernel))) rfl
theorem mt_2_94 : (Jvm.Cond.methodLink "SourceDesk$Scribe" (26 : Nat) ({ cls := "SourceDesk$Tree", name := "holds", desc := "(I)Z" } : Jvm.MethodName)) ∈ lw_t := lw_m (lw_in_2 (List.mem_of_getElem? (i := 94) (by decide +kernel))) rfl
theorem mt_2_95 : (Jvm.Cond.instanceMethod ({ cls := "SourceDesk$Tree", name := "holds", desc := "(I)Z" } : Jvm.MethodName)) ∈ lw_t := lw_m (lw_in_2 (List.mem_of_getElem? (i := 95) (by decide +kernel))) rfl
theorem mt_2_96 : (Jvm.Cond.selects "SourceDesk$Tree" ({ cls := "SourceDesk$Tree", name := "holds", desc := "(I)Z" } : Jvm.MethodName) ({ cls := "SourceDesk$Tree", name := "holds", desc := "(I)Z" } : Jvm.MethodName)) ∈ lw_t := lw_m (lw_in_2 (List.mem_of_getElem? (i := 96) (by decide +kernel))) rfl
theorem mt_2_97 : (Jvm.Cond.code ({ cls := "SourceDesk$Tree", name := "holds", desc := "(I)Z" } : Jvm.MethodName) prog_7_method_18_code (2 : Nat) (Option.some Jvm.ClassFile.FieldType.boolean)) ∈ lw_t := lw_m (lw_in_2 (List.mem_of_getElem? (i := 97) (by decide +kernel))) rfl
theorem mt_2_98 : (Jvm.Cond.methodLink "SourceDesk$Scribe" (30 : Nat) ({ cls := "SourceDesk$Scribe", name := "writeStatement", desc := "(LSourceDesk$Tree;LSourceDesk$Characters;II)V" } : Jvm.MethodName)) ∈ lw_t := lw_m (lw_in_2 (List.mem_of_getElem? (i := 98) (by decide +kernel))) rfl
theorem mt_2_99 : (Jvm.Cond.static ({ cls := "SourceDesk$Scribe", name := "writeStatement", desc := "(LSourceDesk$Tree;LSourceDesk$Characters;II)V" } : Jvm.MethodName)) ∈ lw_t := lw_m (lw_in_2 (List.mem_of_getElem? (i := 99) (by decide +kernel))) rfl
theorem mt_2_100 : (Jvm.Cond.code ({ cls := "SourceDesk$Scribe", name := "writeStatement", desc := "(LSourceDesk$Tree;LSourceDesk$Characters;II)V" } : Jvm.MethodName) prog_6_method_4_code (6 : Nat) (Option.none : Option Jvm.ClassFile.FieldType)) ∈ lw_t := lw_m (lw_in_2 (List.mem_of_getElem? (i := 100) (by decide +kernel))) rfl
theorem mt_2_101 : (Jvm.Cond.methodLink "SourceDesk$Scribe" (37 : Nat) ({ cls := "SourceDesk$Tree", name := "kind", desc := "(I)I" } : Jvm.MethodName)) ∈ lw_t := lw_m (lw_in_2 (List.mem_of_getElem? (i := 101) (by decide +kernel))) rfl
theorem mt_2_102 : (Jvm.Cond.instanceMethod ({ cls := "SourceDesk$Tree", name := "kind", desc := "(I)I" } : Jvm.MethodName)) ∈ lw_t := lw_m (lw_in_2 (List.mem_of_getElem? (i := 102) (by decide +kernel))) rfl
theorem mt_2_103 : (Jvm.Cond.selects "SourceDesk$Tree" ({ cls := "SourceDesk$Tree", name := "kind", desc := "(I)I" } : Jvm.MethodName) ({ cls := "SourceDesk$Tree", name := "kind", desc := "(I)I" } : Jvm.MethodName)) ∈ lw_t := lw_m (lw_in_2 (List.mem_of_getElem? (i := 103) (by decide +kernel))) rfl
theorem mt_2_104 : (Jvm.Cond.code ({ cls := "SourceDesk$Tree", name := "kind", desc := "(I)I" } : Jvm.MethodName) prog_7_method_19_code (2 : Nat) (Option.some Jvm.ClassFile.FieldType.int)) ∈ lw_t := lw_m (lw_in_2 (List.mem_of_getElem? (i := 104) (by decide +kernel))) rfl
theorem mt_2_105 : (Jvm.Cond.methodLink "SourceDesk$Tree" (113 : Nat) ({ cls := "SourceDesk$Tree", name := "holds", desc := "(I)Z" } : Jvm.MethodName)) ∈ lw_t := lw_m (lw_in_2 (List.mem_of_getElem? (i := 105) (by decide +kernel))) rfl
theorem mt_2_106 : (Jvm.Cond.methodLink "SourceDesk$Scribe" (40 : Nat) ({ cls := "SourceDesk$Tree", name := "mark", desc := "(I)I" } : Jvm.MethodName)) ∈ lw_t := lw_m (lw_in_2 (List.mem_of_getElem? (i := 106) (by decide +kernel))) rfl
theorem mt_2_107 : (Jvm.Cond.instanceMethod ({ cls := "SourceDesk$Tree", name := "mark", desc := "(I)I" } : Jvm.MethodName)) ∈ lw_t := lw_m (lw_in_2 (List.mem_of_getElem? (i := 107) (by decide +kernel))) rfl
theorem mt_2_108 : (Jvm.Cond.selects "SourceDesk$Tree" ({ cls := "SourceDesk$Tree", name := "mark", desc := "(I)I" } : Jvm.MethodName) ({ cls := "SourceDesk$Tree", name := "mark", desc := "(I)I" } : Jvm.MethodName)) ∈ lw_t := lw_m (lw_in_2 (List.mem_of_getElem? (i := 108) (by decide +kernel))) rfl
theorem mt_2_109 : (Jvm.Cond.code ({ cls := "SourceDesk$Tree", name := "mark", desc := "(I)I" } : Jvm.MethodName) prog_7_method_21_code (2 : Nat) (Option.some Jvm.ClassFile.FieldType.int)) ∈ lw_t := lw_m (lw_in_2 (List.mem_of_getElem? (i := 109) (by decide +kernel))) rfl
theorem mt_2_110 : (Jvm.Cond.methodLink "SourceDesk$Scribe" (43 : Nat) ({ cls := "SourceDesk$Tree", name := "source", desc := "()LSourceDesk$Listing;" } : Jvm.MethodName)) ∈ lw_t := lw_m (lw_in_2 (List.mem_of_getElem? (i := 110) (by decide +kernel))) rfl
theorem mt_2_111 : (Jvm.Cond.instanceMethod ({ cls := "SourceDesk$Tree", name := "source", desc := "()LSourceDesk$Listing;" } : Jvm.MethodName)) ∈ lw_t := lw_m (lw_in_2 (List.mem_of_getElem? (i := 111) (by decide +kernel))) rfl
theorem mt_2_112 : (Jvm.Cond.selects "SourceDesk$Tree" ({ cls := "SourceDesk$Tree", name := "source", desc := "()LSourceDesk$Listing;" } : Jvm.MethodName) ({ cls := "SourceDesk$Tree", name := "source", desc := "()LSourceDesk$Listing;" } : Jvm.MethodName)) ∈ lw_t := lw_m (lw_in_2 (List.mem_of_getElem? (i := 112) (by decide +kernel))) rfl
theorem mt_2_113 : (Jvm.Cond.code ({ cls := "SourceDesk$Tree", name := "source", desc := "()LSourceDesk$Listing;" } : Jvm.MethodName) prog_7_method_25_code (1 : Nat) (Option.some (Jvm.ClassFile.FieldType.object "SourceDesk$Listing"))) ∈ lw_t := lw_m (lw_in_2 (List.mem_of_getElem? (i := 113) (by decide +kernel))) rfl
theorem mt_2_114 : (Jvm.Cond.methodLink "SourceDesk$Scribe" (47 : Nat) ({ cls := "SourceDesk$Listing", name := "number", desc := "(I)I" } : Jvm.MethodName)) ∈ lw_t := lw_m (lw_in_2 (List.mem_of_getElem? (i := 114) (by decide +kernel))) rfl
theorem mt_2_115 : (Jvm.Cond.methodLink "SourceDesk$Scribe" (52 : Nat) ({ cls := "SourceDesk$Characters", name := "add", desc := "(I)Z" } : Jvm.MethodName)) ∈ lw_t := lw_m (lw_in_2 (List.mem_of_getElem? (i := 115) (by decide +kernel))) rfl
theorem mt_2_116 : (Jvm.Cond.instanceMethod ({ cls := "SourceDesk$Characters", name := "add", desc := "(I)Z" } : Jvm.MethodName)) ∈ lw_t := lw_m (lw_in_2 (List.mem_of_getElem? (i := 116) (by decide +kernel))) rfl
theorem mt_2_117 : (Jvm.Cond.selects "SourceDesk$Characters" ({ cls := "SourceDesk$Characters", name := "add", desc := "(I)Z" } : Jvm.MethodName) ({ cls := "SourceDesk$Characters", name := "add", desc := "(I)Z" } : Jvm.MethodName)) ∈ lw_t := lw_m (lw_in_2 (List.mem_of_getElem? (i := 117) (by decide +kernel))) rfl
theorem mt_2_118 : (Jvm.Cond.code ({ cls := "SourceDesk$Characters", name := "add", desc := "(I)Z" } : Jvm.MethodName) prog_2_method_4_code (2 : Nat) (Option.some Jvm.ClassFile.FieldType.boolean)) ∈ lw_t := lw_m (lw_in_2 (List.mem_of_getElem? (i := 118) (by decide +kernel))) rfl
theorem mt_2_119 : (Jvm.Cond.methodLink "SourceDesk$Scribe" (55 : Nat) ({ cls := "SourceDesk$Scribe", name := "signOfStatement", desc := "(I)C" } : Jvm.MethodName)) ∈ lw_t := lw_m (lw_in_2 (List.mem_of_getElem? (i := 119) (by decide +kernel))) rfl
theorem mt_2_120 : (Jvm.Cond.static ({ cls := "SourceDesk$Scribe", name := "signOfStatement", desc := "(I)C" } : Jvm.MethodName)) ∈ lw_t := lw_m (lw_in_2 (List.mem_of_getElem? (i := 120) (by decide +kernel))) rfl
theorem mt_2_121 : (Jvm.Cond.code ({ cls := "SourceDesk$Scribe", name := "signOfStatement", desc := "(I)C" } : Jvm.MethodName) prog_6_method_6_code (1 : Nat) (Option.some Jvm.ClassFile.FieldType.char)) ∈ lw_t := lw_m (lw_in_2 (List.mem_of_getElem? (i := 121) (by decide +kernel))) rfl
theorem mt_2_122 : (Jvm.Cond.methodLink "SourceDesk$Scribe" (59 : Nat) ({ cls := "SourceDesk$Scribe", name := "writeExpression", desc := "(LSourceDesk$Tree;LSourceDesk$Characters;II)V" } : Jvm.MethodName)) ∈ lw_t := lw_m (lw_in_2 (List.mem_of_getElem? (i := 122) (by decide +kernel))) rfl
theorem mt_2_123 : (Jvm.Cond.static ({ cls := "SourceDesk$Scribe", name := "writeExpression", desc := "(LSourceDesk$Tree;LSourceDesk$Characters;II)V" } : Jvm.MethodName)) ∈ lw_t := lw_m (lw_in_2 (List.mem_of_getElem? (i := 123) (by decide +kernel))) rfl
theorem mt_2_124 : (Jvm.Cond.code ({ cls := "SourceDesk$Scribe", name := "writeExpression", desc := "(LSourceDesk$Tree;LSourceDesk$Characters;II)V" } : Jvm.MethodName) prog_6_method_7_code (5 : Nat) (Option.none : Option Jvm.ClassFile.FieldType)) ∈ lw_t := lw_m (lw_in_2 (List.mem_of_getElem? (i := 124) (by decide +kernel))) rfl
theorem mt_2_125 : (Jvm.Cond.methodLink "SourceDesk$Scribe" (71 : Nat) ({ cls := "SourceDesk$Listing", name := "holds", desc := "(I)Z" } : Jvm.MethodName)) ∈ lw_t := lw_m (lw_in_2 (List.mem_of_getElem? (i := 125) (by decide +kernel))) rfl
theorem mt_2_126 : (Jvm.Cond.methodLink "SourceDesk$Scribe" (72 : Nat) ({ cls := "SourceDesk$Listing", name := "op", desc := "(I)I" } : Jvm.MethodName)) ∈ lw_t := lw_m (lw_in_2 (List.mem_of_getElem? (i := 126) (by decide +kernel))) rfl
theorem mt_2_127 : (Jvm.Cond.methodLink "SourceDesk$Scribe" (75 : Nat) ({ cls := "SourceDesk$Scribe", name := "writeNumber", desc := "(LSourceDesk$Characters;I)V" } : Jvm.MethodName)) ∈ lw_t := lw_m (lw_in_2 (List.mem_of_getElem? (i := 127) (by decide +kernel))) rfl
theorem mt_2_128 : (Jvm.Cond.static ({ cls := "SourceDesk$Scribe", name := "writeNumber", desc := "(LSourceDesk$Characters;I)V" } : Jvm.MethodName)) ∈ lw_t := lw_m (lw_in_2 (List.mem_of_getElem? (i := 128) (by decide +kernel))) rfl
theorem mt_2_129 : (Jvm.Cond.code ({ cls := "SourceDesk$Scribe", name := "writeNumber", desc := "(LSourceDesk$Characters;I)V" } : Jvm.MethodName) prog_6_method_8_code (2 : Nat) (Option.none : Option Jvm.ClassFile.FieldType)) ∈ lw_t := lw_m (lw_in_2 (List.mem_of_getElem? (i := 129) (by decide +kernel))) rfl
theorem mt_2_130 : (Jvm.Cond.methodLink "SourceDesk$Scribe" (79 : Nat) ({ cls := "SourceDesk$Tree", name := "leftOf", desc := "(I)I" } : Jvm.MethodName)) ∈ lw_t := lw_m (lw_in_2 (List.mem_of_getElem? (i := 130) (by decide +kernel))) rfl
theorem mt_2_131 : (Jvm.Cond.methodLink "SourceDesk$Scribe" (82 : Nat) ({ cls := "SourceDesk$Scribe", name := "signOfOp", desc := "(I)C" } : Jvm.MethodName)) ∈ lw_t := lw_m (lw_in_2 (List.mem_of_getElem? (i := 131) (by decide +kernel))) rfl
theorem mt_2_132 : (Jvm.Cond.static ({ cls := "SourceDesk$Scribe", name := "signOfOp", desc := "(I)C" } : Jvm.MethodName)) ∈ lw_t := lw_m (lw_in_2 (List.mem_of_getElem? (i := 132) (by decide +kernel))) rfl
theorem mt_2_133 : (Jvm.Cond.code ({ cls := "SourceDesk$Scribe", name := "signOfOp", desc := "(I)C" } : Jvm.MethodName) prog_6_method_9_code (1 : Nat) (Option.some Jvm.ClassFile.FieldType.char)) ∈ lw_t := lw_m (lw_in_2 (List.mem_of_getElem? (i := 133) (by decide +kernel))) rfl
theorem mt_2_134 : (Jvm.Cond.methodLink "SourceDesk$Scribe" (62 : Nat) ({ cls := "SourceDesk$Tree", name := "part", desc := "(I)I" } : Jvm.MethodName)) ∈ lw_t := lw_m (lw_in_2 (List.mem_of_getElem? (i := 134) (by decide +kernel))) rfl
theorem mt_2_135 : (Jvm.Cond.instanceMethod ({ cls := "SourceDesk$Tree", name := "part", desc := "(I)I" } : Jvm.MethodName)) ∈ lw_t := lw_m (lw_in_2 (List.mem_of_getElem? (i := 135) (by decide +kernel))) rfl
theorem mt_2_136 : (Jvm.Cond.selects "SourceDesk$Tree" ({ cls := "SourceDesk$Tree", name := "part", desc := "(I)I" } : Jvm.MethodName) ({ cls := "SourceDesk$Tree", name := "part", desc := "(I)I" } : Jvm.MethodName)) ∈ lw_t := lw_m (lw_in_2 (List.mem_of_getElem? (i := 136) (by decide +kernel))) rfl
theorem mt_2_137 : (Jvm.Cond.code ({ cls := "SourceDesk$Tree", name := "part", desc := "(I)I" } : Jvm.MethodName) prog_7_method_22_code (2 : Nat) (Option.some Jvm.ClassFile.FieldType.int)) ∈ lw_t := lw_m (lw_in_2 (List.mem_of_getElem? (i := 137) (by decide +kernel))) rfl
theorem mt_2_138 : (Jvm.Cond.methodLink "SourceDesk$Scribe" (65 : Nat) ({ cls := "SourceDesk$Scribe", name := "writeBlock", desc := "(LSourceDesk$Tree;LSourceDesk$Characters;II)V" } : Jvm.MethodName)) ∈ lw_t := lw_m (lw_in_2 (List.mem_of_getElem? (i := 138) (by decide +kernel))) rfl
theorem mt_2_139 : (Jvm.Cond.static ({ cls := "SourceDesk$Scribe", name := "writeBlock", desc := "(LSourceDesk$Tree;LSourceDesk$Characters;II)V" } : Jvm.MethodName)) ∈ lw_t := lw_m (lw_in_2 (List.mem_of_getElem? (i := 139) (by decide +kernel))) rfl
theorem mt_2_140 : (Jvm.Cond.code ({ cls := "SourceDesk$Scribe", name := "writeBlock", desc := "(LSourceDesk$Tree;LSourceDesk$Characters;II)V" } : Jvm.MethodName) prog_6_method_5_code (4 : Nat) (Option.none : Option Jvm.ClassFile.FieldType)) ∈ lw_t := lw_m (lw_in_2 (List.mem_of_getElem? (i := 140) (by decide +kernel))) rfl
theorem mt_2_141 : (Jvm.Cond.methodLink "SourceDesk$Scribe" (68 : Nat) ({ cls := "SourceDesk$Tree", name := "other", desc := "(I)I" } : Jvm.MethodName)) ∈ lw_t := lw_m (lw_in_2 (List.mem_of_getElem? (i := 141) (by decide +kernel))) rfl
theorem mt_2_142 : (Jvm.Cond.instanceMethod ({ cls := "SourceDesk$Tree", name := "other", desc := "(I)I" } : Jvm.MethodName)) ∈ lw_t := lw_m (lw_in_2 (List.mem_of_getElem? (i := 142) (by decide +kernel))) rfl
theorem mt_2_143 : (Jvm.Cond.selects "SourceDesk$Tree" ({ cls := "SourceDesk$Tree", name := "other", desc := "(I)I" } : Jvm.MethodName) ({ cls := "SourceDesk$Tree", name := "other", desc := "(I)I" } : Jvm.MethodName)) ∈ lw_t := lw_m (lw_in_2 (List.mem_of_getElem? (i := 143) (by decide +kernel))) rfl
theorem mt_2_144 : (Jvm.Cond.code ({ cls := "SourceDesk$Tree", name := "other", desc := "(I)I" } : Jvm.MethodName) prog_7_method_23_code (2 : Nat) (Option.some Jvm.ClassFile.FieldType.int)) ∈ lw_t := lw_m (lw_in_2 (List.mem_of_getElem? (i := 144) (by decide +kernel))) rfl
theorem mt_2_145 : (Jvm.Cond.methodLink "SourceDesk$Scribe" (33 : Nat) ({ cls := "SourceDesk$Tree", name := "follower", desc := "(I)I" } : Jvm.MethodName)) ∈ lw_t := lw_m (lw_in_2 (List.mem_of_getElem? (i := 145) (by decide +kernel))) rfl
theorem mt_2_146 : (Jvm.Cond.instanceMethod ({ cls := "SourceDesk$Tree", name := "follower", desc := "(I)I" } : Jvm.MethodName)) ∈ lw_t := lw_m (lw_in_2 (List.mem_of_getElem? (i := 146) (by decide +kernel))) rfl
theorem mt_2_147 : (Jvm.Cond.selects "SourceDesk$Tree" ({ cls := "SourceDesk$Tree", name := "follower", desc := "(I)I" } : Jvm.MethodName) ({ cls := "SourceDesk$Tree", name := "follower", desc := "(I)I" } : Jvm.MethodName)) ∈ lw_t := lw_m (lw_in_2 (List.mem_of_getElem? (i := 147) (by decide +kernel))) rfl
theorem mt_2_148 : (Jvm.Cond.code ({ cls := "SourceDesk$Tree", name := "follower", desc := "(I)I" } : Jvm.MethodName) prog_7_method_24_code (2 : Nat) (Option.some Jvm.ClassFile.FieldType.int)) ∈ lw_t := lw_m (lw_in_2 (List.mem_of_getElem? (i := 148) (by decide +kernel))) rfl
theorem mt_2_153 : (Jvm.Cond.methodLink "SourceDesk" (102 : Nat) ({ cls := "SourceDesk$Characters", name := "at", desc := "(I)I" } : Jvm.MethodName)) ∈ lw_t := lw_m (lw_in_2 (List.mem_of_getElem? (i := 153) (by decide +kernel))) rfl
theorem mt_2_154 : (Jvm.Cond.instanceMethod ({ cls := "SourceDesk$Characters", name := "at", desc := "(I)I" } : Jvm.MethodName)) ∈ lw_t := lw_m (lw_in_2 (List.mem_of_getElem? (i := 154) (by decide +kernel))) rfl
theorem mt_2_155 : (Jvm.Cond.selects "SourceDesk$Characters" ({ cls := "SourceDesk$Characters", name := "at", desc := "(I)I" } : Jvm.MethodName) ({ cls := "SourceDesk$Characters", name := "at", desc := "(I)I" } : Jvm.MethodName)) ∈ lw_t := lw_m (lw_in_2 (List.mem_of_getElem? (i := 155) (by decide +kernel))) rfl
theorem mt_2_156 : (Jvm.Cond.code ({ cls := "SourceDesk$Characters", name := "at", desc := "(I)I" } : Jvm.MethodName) prog_2_method_3_code (2 : Nat) (Option.some Jvm.ClassFile.FieldType.int)) ∈ lw_t := lw_m (lw_in_2 (List.mem_of_getElem? (i := 156) (by decide +kernel))) rfl
theorem mt_2_165 : (Jvm.Cond.methodLink "SourceDesk" (105 : Nat) ({ cls := "SourceDesk$Characters", name := "add", desc := "(I)Z" } : Jvm.MethodName)) ∈ lw_t := lw_m (lw_in_2 (List.mem_of_getElem? (i := 165) (by decide +kernel))) rfl
theorem mt_2_170 : (Jvm.Cond.methodLink "SourceDesk" (107 : Nat) ({ cls := "SourceDesk$Characters", name := "become", desc := "(LSourceDesk$Characters;)V" } : Jvm.MethodName)) ∈ lw_t := lw_m (lw_in_2 (List.mem_of_getElem? (i := 170) (by decide +kernel))) rfl
theorem mt_2_171 : (Jvm.Cond.instanceMethod ({ cls := "SourceDesk$Characters", name := "become", desc := "(LSourceDesk$Characters;)V" } : Jvm.MethodName)) ∈ lw_t := lw_m (lw_in_2 (List.mem_of_getElem? (i := 171) (by decide +kernel))) rfl
theorem mt_2_172 : (Jvm.Cond.selects "SourceDesk$Characters" ({ cls := "SourceDesk$Characters", name := "become", desc := "(LSourceDesk$Characters;)V" } : Jvm.MethodName) ({ cls := "SourceDesk$Characters", name := "become", desc := "(LSourceDesk$Characters;)V" } : Jvm.MethodName)) ∈ lw_t := lw_m (lw_in_2 (List.mem_of_getElem? (i := 172) (by decide +kernel))) rfl
theorem mt_2_173 : (Jvm.Cond.code ({ cls := "SourceDesk$Characters", name := "become", desc := "(LSourceDesk$Characters;)V" } : Jvm.MethodName) prog_2_method_6_code (2 : Nat) (Option.none : Option Jvm.ClassFile.FieldType)) ∈ lw_t := lw_m (lw_in_2 (List.mem_of_getElem? (i := 173) (by decide +kernel))) rfl
theorem mt_2_174 : (Jvm.Cond.methodLink "SourceDesk$Characters" (19 : Nat) ({ cls := "java/lang/Math", name := "min", desc := "(II)I" } : Jvm.MethodName)) ∈ lw_t := lw_m (lw_in_2 (List.mem_of_getElem? (i := 174) (by decide +kernel))) rfl
theorem mt_2_175 : (Jvm.Cond.methodLink "SourceDesk$Characters" (25 : Nat) ({ cls := "java/lang/System", name := "arraycopy", desc := "(Ljava/lang/Object;ILjava/lang/Object;II)V" } : Jvm.MethodName)) ∈ lw_t := lw_m (lw_in_2 (List.mem_of_getElem? (i := 175) (by decide +kernel))) rfl
theorem mt_2_180 : (Jvm.Cond.methodLink "SourceDesk" (111 : Nat) ({ cls := "SourceDesk$Draft", name := "translate", desc := "()I" } : Jvm.MethodName)) ∈ lw_t := lw_m (lw_in_2 (List.mem_of_getElem? (i := 180) (by decide +kernel))) rfl
theorem mt_2_181 : (Jvm.Cond.instanceMethod ({ cls := "SourceDesk$Draft", name := "translate", desc := "()I" } : Jvm.MethodName)) ∈ lw_t := lw_m (lw_in_2 (List.mem_of_getElem? (i := 181) (by decide +kernel))) rfl
theorem mt_2_182 : (Jvm.Cond.selects "SourceDesk$Draft" ({ cls := "SourceDesk$Draft", name := "translate", desc := "()I" } : Jvm.MethodName) ({ cls := "SourceDesk$Draft", name := "translate", desc := "()I" } : Jvm.MethodName)) ∈ lw_t := lw_m (lw_in_2 (List.mem_of_getElem? (i := 182) (by decide +kernel))) rfl
theorem mt_2_183 : (Jvm.Cond.code ({ cls := "SourceDesk$Draft", name := "translate", desc := "()I" } : Jvm.MethodName) prog_3_method_4_code (2 : Nat) (Option.some Jvm.ClassFile.FieldType.int)) ∈ lw_t := lw_m (lw_in_2 (List.mem_of_getElem? (i := 183) (by decide +kernel))) rfl
theorem mt_2_184 : (Jvm.Cond.methodLink "SourceDesk$Draft" (31 : Nat) ({ cls := "SourceDesk$Listing", name := "drop", desc := "()V" } : Jvm.MethodName)) ∈ lw_t := lw_m (lw_in_2 (List.mem_of_getElem? (i := 184) (by decide +kernel))) rfl
theorem mt_2_185 : (Jvm.Cond.methodLink "SourceDesk$Draft" (34 : Nat) ({ cls := "SourceDesk$Draft", name := "takeStatements", desc := "(I)Z" } : Jvm.MethodName)) ∈ lw_t := lw_m (lw_in_2 (List.mem_of_getElem? (i := 185) (by decide +kernel))) rfl
theorem mt_2_187 : (Jvm.Cond.instanceMethod ({ cls := "SourceDesk$Draft", name := "takeStatements", desc := "(I)Z" } : Jvm.MethodName)) ∈ lw_t := lw_m (lw_in_2 (List.mem_of_getElem? (i := 187) (by decide +kernel))) rfl
theorem mt_2_188 : (Jvm.Cond.code ({ cls := "SourceDesk$Draft", name := "takeStatements", desc := "(I)Z" } : Jvm.MethodName) prog_3_method_5_code (3 : Nat) (Option.some Jvm.ClassFile.FieldType.boolean)) ∈ lw_t := lw_m (lw_in_2 (List.mem_of_getElem? (i := 188) (by decide +kernel))) rfl
theorem mt_2_189 : (Jvm.Cond.methodLink "SourceDesk$Draft" (38 : Nat) ({ cls := "SourceDesk$Characters", name := "size", desc := "()I" } : Jvm.MethodName)) ∈ lw_t := lw_m (lw_in_2 (List.mem_of_getElem? (i := 189) (by decide +kernel))) rfl
theorem mt_2_190 : (Jvm.Cond.methodLink "SourceDesk$Draft" (43 : Nat) ({ cls := "SourceDesk$Characters", name := "at", desc := "(I)I" } : Jvm.MethodName)) ∈ lw_t := lw_m (lw_in_2 (List.mem_of_getElem? (i := 190) (by decide +kernel))) rfl
theorem mt_2_191 : (Jvm.Cond.methodLink "SourceDesk$Draft" (46 : Nat) ({ cls := "SourceDesk$Draft", name := "takeStatement", desc := "(I)Z" } : Jvm.MethodName)) ∈ lw_t := lw_m (lw_in_2 (List.mem_of_getElem? (i := 191) (by decide +kernel))) rfl
theorem mt_2_193 : (Jvm.Cond.instanceMethod ({ cls := "SourceDesk$Draft", name := "takeStatement", desc := "(I)Z" } : Jvm.MethodName)) ∈ lw_t := lw_m (lw_in_2 (List.mem_of_getElem? (i := 193) (by decide +kernel))) rfl
theorem mt_2_194 : (Jvm.Cond.code ({ cls := "SourceDesk$Draft", name := "takeStatement", desc := "(I)Z" } : Jvm.MethodName) prog_3_method_6_code (3 : Nat) (Option.some Jvm.ClassFile.FieldType.boolean)) ∈ lw_t := lw_m (lw_in_2 (List.mem_of_getElem? (i := 194) (by decide +kernel))) rfl
theorem mt_2_195 : (Jvm.Cond.methodLink "SourceDesk$Draft" (49 : Nat) ({ cls := "SourceDesk$Draft", name := "isVariable", desc := "(I)Z" } : Jvm.MethodName)) ∈ lw_t := lw_m (lw_in_2 (List.mem_of_getElem? (i := 195) (by decide +kernel))) rfl
theorem mt_2_196 : (Jvm.Cond.static ({ cls := "SourceDesk$Draft", name := "isVariable", desc := "(I)Z" } : Jvm.MethodName)) ∈ lw_t := lw_m (lw_in_2 (List.mem_of_getElem? (i := 196) (by decide +kernel))) rfl
theorem mt_2_197 : (Jvm.Cond.code ({ cls := "SourceDesk$Draft", name := "isVariable", desc := "(I)Z" } : Jvm.MethodName) prog_3_method_19_code (1 : Nat) (Option.some Jvm.ClassFile.FieldType.boolean)) ∈ lw_t := lw_m (lw_in_2 (List.mem_of_getElem? (i := 197) (by decide +kernel))) rfl
theorem mt_2_198 : (Jvm.Cond.methodLink "SourceDesk$Draft" (52 : Nat) ({ cls := "SourceDesk$Draft", name := "takeStore", desc := "(I)Z" } : Jvm.MethodName)) ∈ lw_t := lw_m (lw_in_2 (List.mem_of_getElem? (i := 198) (by decide +kernel))) rfl
theorem mt_2_200 : (Jvm.Cond.instanceMethod ({ cls := "SourceDesk$Draft", name := "takeStore", desc := "(I)Z" } : Jvm.MethodName)) ∈ lw_t := lw_m (lw_in_2 (List.mem_of_getElem? (i := 200) (by decide +kernel))) rfl
theorem mt_2_201 : (Jvm.Cond.code ({ cls := "SourceDesk$Draft", name := "takeStore", desc := "(I)Z" } : Jvm.MethodName) prog_3_method_7_code (2 : Nat) (Option.some Jvm.ClassFile.FieldType.boolean)) ∈ lw_t := lw_m (lw_in_2 (List.mem_of_getElem? (i := 201) (by decide +kernel))) rfl
theorem mt_2_202 : (Jvm.Cond.methodLink "SourceDesk$Draft" (65 : Nat) ({ cls := "SourceDesk$Draft", name := "take", desc := "(C)Z" } : Jvm.MethodName)) ∈ lw_t := lw_m (lw_in_2 (List.mem_of_getElem? (i := 202) (by decide +kernel))) rfl
theorem mt_2_204 : (Jvm.Cond.instanceMethod ({ cls := "SourceDesk$Draft", name := "take", desc := "(C)Z" } : Jvm.MethodName)) ∈ lw_t := lw_m (lw_in_2 (List.mem_of_getElem? (i := 204) (by decide +kernel))) rfl
theorem mt_2_205 : (Jvm.Cond.code ({ cls := "SourceDesk$Draft", name := "take", desc := "(C)Z" } : Jvm.MethodName) prog_3_method_17_code (2 : Nat) (Option.some Jvm.ClassFile.FieldType.boolean)) ∈ lw_t := lw_m (lw_in_2 (List.mem_of_getElem? (i := 205) (by decide +kernel))) rfl
theorem mt_2_206 : (Jvm.Cond.methodLink "SourceDesk$Draft" (69 : Nat) ({ cls := "SourceDesk$Draft", name := "takeExpression", desc := "(I)Z" } : Jvm.MethodName)) ∈ lw_t := lw_m (lw_in_2 (List.mem_of_getElem? (i := 206) (by decide +kernel))) rfl
theorem mt_2_208 : (Jvm.Cond.instanceMethod ({ cls := "SourceDesk$Draft", name := "takeExpression", desc := "(I)Z" } : Jvm.MethodName)) ∈ lw_t := lw_m (lw_in_2 (List.mem_of_getElem? (i := 208) (by decide +kernel))) rfl
theorem mt_2_209 : (Jvm.Cond.code ({ cls := "SourceDesk$Draft", name := "takeExpression", desc := "(I)Z" } : Jvm.MethodName) prog_3_method_13_code (3 : Nat) (Option.some Jvm.ClassFile.FieldType.boolean)) ∈ lw_t := lw_m (lw_in_2 (List.mem_of_getElem? (i := 209) (by decide +kernel))) rfl
theorem mt_2_210 : (Jvm.Cond.methodLink "SourceDesk$Draft" (86 : Nat) ({ cls := "SourceDesk$Draft", name := "isDigit", desc := "(I)Z" } : Jvm.MethodName)) ∈ lw_t := lw_m (lw_in_2 (List.mem_of_getElem? (i := 210) (by decide +kernel))) rfl
theorem mt_2_211 : (Jvm.Cond.static ({ cls := "SourceDesk$Draft", name := "isDigit", desc := "(I)Z" } : Jvm.MethodName)) ∈ lw_t := lw_m (lw_in_2 (List.mem_of_getElem? (i := 211) (by decide +kernel))) rfl
theorem mt_2_212 : (Jvm.Cond.code ({ cls := "SourceDesk$Draft", name := "isDigit", desc := "(I)Z" } : Jvm.MethodName) prog_3_method_18_code (1 : Nat) (Option.some Jvm.ClassFile.FieldType.boolean)) ∈ lw_t := lw_m (lw_in_2 (List.mem_of_getElem? (i := 212) (by decide +kernel))) rfl
theorem mt_2_213 : (Jvm.Cond.methodLink "SourceDesk$Draft" (89 : Nat) ({ cls := "SourceDesk$Draft", name := "takeNumber", desc := "()V" } : Jvm.MethodName)) ∈ lw_t := lw_m (lw_in_2 (List.mem_of_getElem? (i := 213) (by decide +kernel))) rfl
theorem mt_2_215 : (Jvm.Cond.instanceMethod ({ cls := "SourceDesk$Draft", name := "takeNumber", desc := "()V" } : Jvm.MethodName)) ∈ lw_t := lw_m (lw_in_2 (List.mem_of_getElem? (i := 215) (by decide +kernel))) rfl
theorem mt_2_216 : (Jvm.Cond.code ({ cls := "SourceDesk$Draft", name := "takeNumber", desc := "()V" } : Jvm.MethodName) prog_3_method_16_code (2 : Nat) (Option.none : Option Jvm.ClassFile.FieldType)) ∈ lw_t := lw_m (lw_in_2 (List.mem_of_getElem? (i := 216) (by decide +kernel))) rfl
theorem mt_2_217 : (Jvm.Cond.methodLink "SourceDesk$Draft" (72 : Nat) ({ cls := "SourceDesk$Listing", name := "add", desc := "(II)Z" } : Jvm.MethodName)) ∈ lw_t := lw_m (lw_in_2 (List.mem_of_getElem? (i := 217) (by decide +kernel))) rfl
theorem mt_2_218 : (Jvm.Cond.methodLink "SourceDesk$Draft" (92 : Nat) ({ cls := "SourceDesk$Draft", name := "takeNot", desc := "(I)Z" } : Jvm.MethodName)) ∈ lw_t := lw_m (lw_in_2 (List.mem_of_getElem? (i := 218) (by decide +kernel))) rfl
theorem mt_2_220 : (Jvm.Cond.instanceMethod ({ cls := "SourceDesk$Draft", name := "takeNot", desc := "(I)Z" } : Jvm.MethodName)) ∈ lw_t := lw_m (lw_in_2 (List.mem_of_getElem? (i := 220) (by decide +kernel))) rfl
theorem mt_2_221 : (Jvm.Cond.code ({ cls := "SourceDesk$Draft", name := "takeNot", desc := "(I)Z" } : Jvm.MethodName) prog_3_method_14_code (2 : Nat) (Option.some Jvm.ClassFile.FieldType.boolean)) ∈ lw_t := lw_m (lw_in_2 (List.mem_of_getElem? (i := 221) (by decide +kernel))) rfl
theorem mt_2_222 : (Jvm.Cond.methodLink "SourceDesk$Draft" (95 : Nat) ({ cls := "SourceDesk$Draft", name := "takePair", desc := "(I)Z" } : Jvm.MethodName)) ∈ lw_t := lw_m (lw_in_2 (List.mem_of_getElem? (i := 222) (by decide +kernel))) rfl
theorem mt_2_224 : (Jvm.Cond.instanceMethod ({ cls := "SourceDesk$Draft", name := "takePair", desc := "(I)Z" } : Jvm.MethodName)) ∈ lw_t := lw_m (lw_in_2 (List.mem_of_getElem? (i := 224) (by decide +kernel))) rfl
theorem mt_2_225 : (Jvm.Cond.code ({ cls := "SourceDesk$Draft", name := "takePair", desc := "(I)Z" } : Jvm.MethodName) prog_3_method_15_code (3 : Nat) (Option.some Jvm.ClassFile.FieldType.boolean)) ∈ lw_t := lw_m (lw_in_2 (List.mem_of_getElem? (i := 225) (by decide +kernel))) rfl
theorem mt_2_226 : (Jvm.Cond.methodLink "SourceDesk$Draft" (98 : Nat) ({ cls := "SourceDesk$Draft", name := "opOfSign", desc := "(I)I" } : Jvm.MethodName)) ∈ lw_t := lw_m (lw_in_2 (List.mem_of_getElem? (i := 226) (by decide +kernel))) rfl
theorem mt_2_227 : (Jvm.Cond.static ({ cls := "SourceDesk$Draft", name := "opOfSign", desc := "(I)I" } : Jvm.MethodName)) ∈ lw_t := lw_m (lw_in_2 (List.mem_of_getElem? (i := 227) (by decide +kernel))) rfl
theorem mt_2_228 : (Jvm.Cond.code ({ cls := "SourceDesk$Draft", name := "opOfSign", desc := "(I)I" } : Jvm.MethodName) prog_3_method_20_code (1 : Nat) (Option.some Jvm.ClassFile.FieldType.int)) ∈ lw_t := lw_m (lw_in_2 (List.mem_of_getElem? (i := 228) (by decide +kernel))) rfl
theorem mt_2_229 : (Jvm.Cond.methodLink "SourceDesk$Draft" (55 : Nat) ({ cls := "SourceDesk$Draft", name := "takePrint", desc := "()Z" } : Jvm.MethodName)) ∈ lw_t := lw_m (lw_in_2 (List.mem_of_getElem? (i := 229) (by decide +kernel))) rfl
theorem mt_2_231 : (Jvm.Cond.instanceMethod ({ cls := "SourceDesk$Draft", name := "takePrint", desc := "()Z" } : Jvm.MethodName)) ∈ lw_t := lw_m (lw_in_2 (List.mem_of_getElem? (i := 231) (by decide +kernel))) rfl
theorem mt_2_232 : (Jvm.Cond.code ({ cls := "SourceDesk$Draft", name := "takePrint", desc := "()Z" } : Jvm.MethodName) prog_3_method_8_code (1 : Nat) (Option.some Jvm.ClassFile.FieldType.boolean)) ∈ lw_t := lw_m (lw_in_2 (List.mem_of_getElem? (i := 232) (by decide +kernel))) rfl
theorem mt_2_233 : (Jvm.Cond.methodLink "SourceDesk$Draft" (59 : Nat) ({ cls := "SourceDesk$Draft", name := "takeWhile", desc := "(I)Z" } : Jvm.MethodName)) ∈ lw_t := lw_m (lw_in_2 (List.mem_of_getElem? (i := 233) (by decide +kernel))) rfl
theorem mt_2_235 : (Jvm.Cond.instanceMethod ({ cls := "SourceDesk$Draft", name := "takeWhile", desc := "(I)Z" } : Jvm.MethodName)) ∈ lw_t := lw_m (lw_in_2 (List.mem_of_getElem? (i := 235) (by decide +kernel))) rfl
theorem mt_2_236 : (Jvm.Cond.code ({ cls := "SourceDesk$Draft", name := "takeWhile", desc := "(I)Z" } : Jvm.MethodName) prog_3_method_9_code (4 : Nat) (Option.some Jvm.ClassFile.FieldType.boolean)) ∈ lw_t := lw_m (lw_in_2 (List.mem_of_getElem? (i := 236) (by decide +kernel))) rfl
theorem mt_2_237 : (Jvm.Cond.methodLink "SourceDesk$Draft" (42 : Nat) ({ cls := "SourceDesk$Listing", name := "size", desc := "()I" } : Jvm.MethodName)) ∈ lw_t := lw_m (lw_in_2 (List.mem_of_getElem? (i := 237) (by decide +kernel))) rfl
theorem mt_2_238 : (Jvm.Cond.methodLink "SourceDesk$Draft" (76 : Nat) ({ cls := "SourceDesk$Draft", name := "takeGuarded", desc := "(I)I" } : Jvm.MethodName)) ∈ lw_t := lw_m (lw_in_2 (List.mem_of_getElem? (i := 238) (by decide +kernel))) rfl
theorem mt_3_0 : (Jvm.Cond.instanceMethod ({ cls := "SourceDesk$Draft", name := "takeGuarded", desc := "(I)I" } : Jvm.MethodName)) ∈ lw_t := lw_m (lw_in_3 (List.mem_of_getElem? (i := 0) (by decide +kernel))) rfl
theorem mt_3_1 : (Jvm.Cond.code ({ cls := "SourceDesk$Draft", name := "takeGuarded", desc := "(I)I" } : Jvm.MethodName) prog_3_method_11_code (3 : Nat) (Option.some Jvm.ClassFile.FieldType.int)) ∈ lw_t := lw_m (lw_in_3 (List.mem_of_getElem? (i := 1) (by decide +kernel))) rfl
theorem mt_3_2 : (Jvm.Cond.methodLink "SourceDesk$Draft" (83 : Nat) ({ cls := "SourceDesk$Draft", name := "takeBlock", desc := "(I)Z" } : Jvm.MethodName)) ∈ lw_t := lw_m (lw_in_3 (List.mem_of_getElem? (i := 2) (by decide +kernel))) rfl
theorem mt_3_4 : (Jvm.Cond.instanceMethod ({ cls := "SourceDesk$Draft", name := "takeBlock", desc := "(I)Z" } : Jvm.MethodName)) ∈ lw_t := lw_m (lw_in_3 (List.mem_of_getElem? (i := 4) (by decide +kernel))) rfl
theorem mt_3_5 : (Jvm.Cond.code ({ cls := "SourceDesk$Draft", name := "takeBlock", desc := "(I)Z" } : Jvm.MethodName) prog_3_method_12_code (2 : Nat) (Option.some Jvm.ClassFile.FieldType.boolean)) ∈ lw_t := lw_m (lw_in_3 (List.mem_of_getElem? (i := 5) (by decide +kernel))) rfl
theorem mt_3_6 : (Jvm.Cond.methodLink "SourceDesk$Draft" (79 : Nat) ({ cls := "SourceDesk$Listing", name := "set", desc := "(III)V" } : Jvm.MethodName)) ∈ lw_t := lw_m (lw_in_3 (List.mem_of_getElem? (i := 6) (by decide +kernel))) rfl
theorem mt_3_7 : (Jvm.Cond.methodLink "SourceDesk$Draft" (62 : Nat) ({ cls := "SourceDesk$Draft", name := "takeIf", desc := "(I)Z" } : Jvm.MethodName)) ∈ lw_t := lw_m (lw_in_3 (List.mem_of_getElem? (i := 7) (by decide +kernel))) rfl
theorem mt_3_9 : (Jvm.Cond.instanceMethod ({ cls := "SourceDesk$Draft", name := "takeIf", desc := "(I)Z" } : Jvm.MethodName)) ∈ lw_t := lw_m (lw_in_3 (List.mem_of_getElem? (i := 9) (by decide +kernel))) rfl
theorem mt_3_10 : (Jvm.Cond.code ({ cls := "SourceDesk$Draft", name := "takeIf", desc := "(I)Z" } : Jvm.MethodName) prog_3_method_10_code (4 : Nat) (Option.some Jvm.ClassFile.FieldType.boolean)) ∈ lw_t := lw_m (lw_in_3 (List.mem_of_getElem? (i := 10) (by decide +kernel))) rfl
theorem mt_3_11 : (Jvm.Cond.methodLink "SourceDesk" (114 : Nat) ({ cls := "SourceDesk$Draft", name := "made", desc := "()LSourceDesk$Listing;" } : Jvm.MethodName)) ∈ lw_t := lw_m (lw_in_3 (List.mem_of_getElem? (i := 11) (by decide +kernel))) rfl
theorem mt_3_12 : (Jvm.Cond.instanceMethod ({ cls := "SourceDesk$Draft", name := "made", desc := "()LSourceDesk$Listing;" } : Jvm.MethodName)) ∈ lw_t := lw_m (lw_in_3 (List.mem_of_getElem? (i := 12) (by decide +kernel))) rfl
theorem mt_3_13 : (Jvm.Cond.selects "SourceDesk$Draft" ({ cls := "SourceDesk$Draft", name := "made", desc := "()LSourceDesk$Listing;" } : Jvm.MethodName) ({ cls := "SourceDesk$Draft", name := "made", desc := "()LSourceDesk$Listing;" } : Jvm.MethodName)) ∈ lw_t := lw_m (lw_in_3 (List.mem_of_getElem? (i := 13) (by decide +kernel))) rfl
theorem mt_3_14 : (Jvm.Cond.code ({ cls := "SourceDesk$Draft", name := "made", desc := "()LSourceDesk$Listing;" } : Jvm.MethodName) prog_3_method_3_code (1 : Nat) (Option.some (Jvm.ClassFile.FieldType.object "SourceDesk$Listing"))) ∈ lw_t := lw_m (lw_in_3 (List.mem_of_getElem? (i := 14) (by decide +kernel))) rfl
theorem mt_3_15 : (Jvm.Cond.methodLink "SourceDesk" (118 : Nat) ({ cls := "SourceDesk$Listing", name := "become", desc := "(LSourceDesk$Listing;)V" } : Jvm.MethodName)) ∈ lw_t := lw_m (lw_in_3 (List.mem_of_getElem? (i := 15) (by decide +kernel))) rfl
theorem mt_3_20 : (Jvm.Cond.methodLink "SourceDesk" (121 : Nat) ({ cls := "SourceDesk$Machine", name := "start", desc := "(II)V" } : Jvm.MethodName)) ∈ lw_t := lw_m (lw_in_3 (List.mem_of_getElem? (i := 20) (by decide +kernel))) rfl
theorem mt_3_21 : (Jvm.Cond.instanceMethod ({ cls := "SourceDesk$Machine", name := "start", desc := "(II)V" } : Jvm.MethodName)) ∈ lw_t := lw_m (lw_in_3 (List.mem_of_getElem? (i := 21) (by decide +kernel))) rfl
theorem mt_3_22 : (Jvm.Cond.selects "SourceDesk$Machine" ({ cls := "SourceDesk$Machine", name := "start", desc := "(II)V" } : Jvm.MethodName) ({ cls := "SourceDesk$Machine", name := "start", desc := "(II)V" } : Jvm.MethodName)) ∈ lw_t := lw_m (lw_in_3 (List.mem_of_getElem? (i := 22) (by decide +kernel))) rfl
theorem mt_3_23 : (Jvm.Cond.code ({ cls := "SourceDesk$Machine", name := "start", desc := "(II)V" } : Jvm.MethodName) prog_5_method_2_code (4 : Nat) (Option.none : Option Jvm.ClassFile.FieldType)) ∈ lw_t := lw_m (lw_in_3 (List.mem_of_getElem? (i := 23) (by decide +kernel))) rfl
theorem mt_3_24 : (Jvm.Cond.methodLink "SourceDesk" (125 : Nat) ({ cls := "SourceDesk$Machine", name := "execute", desc := "(LSourceDesk$Listing;)Z" } : Jvm.MethodName)) ∈ lw_t := lw_m (lw_in_3 (List.mem_of_getElem? (i := 24) (by decide +kernel))) rfl
theorem mt_3_25 : (Jvm.Cond.instanceMethod ({ cls := "SourceDesk$Machine", name := "execute", desc := "(LSourceDesk$Listing;)Z" } : Jvm.MethodName)) ∈ lw_t := lw_m (lw_in_3 (List.mem_of_getElem? (i := 25) (by decide +kernel))) rfl
theorem mt_3_26 : (Jvm.Cond.selects "SourceDesk$Machine" ({ cls := "SourceDesk$Machine", name := "execute", desc := "(LSourceDesk$Listing;)Z" } : Jvm.MethodName) ({ cls := "SourceDesk$Machine", name := "execute", desc := "(LSourceDesk$Listing;)Z" } : Jvm.MethodName)) ∈ lw_t := lw_m (lw_in_3 (List.mem_of_getElem? (i := 26) (by decide +kernel))) rfl
theorem mt_3_27 : (Jvm.Cond.code ({ cls := "SourceDesk$Machine", name := "execute", desc := "(LSourceDesk$Listing;)Z" } : Jvm.MethodName) prog_5_method_4_code (4 : Nat) (Option.some Jvm.ClassFile.FieldType.boolean)) ∈ lw_t := lw_m (lw_in_3 (List.mem_of_getElem? (i := 27) (by decide +kernel))) rfl
theorem mt_3_28 : (Jvm.Cond.methodLink "SourceDesk$Machine" (34 : Nat) ({ cls := "SourceDesk$Listing", name := "holds", desc := "(I)Z" } : Jvm.MethodName)) ∈ lw_t := lw_m (lw_in_3 (List.mem_of_getElem? (i := 28) (by decide +kernel))) rfl
theorem mt_3_29 : (Jvm.Cond.methodLink "SourceDesk$Machine" (40 : Nat) ({ cls := "SourceDesk$Machine", name := "spend", desc := "()Z" } : Jvm.MethodName)) ∈ lw_t := lw_m (lw_in_3 (List.mem_of_getElem? (i := 29) (by decide +kernel))) rfl
theorem mt_3_30 : (Jvm.Cond.instanceMethod ({ cls := "SourceDesk$Machine", name := "spend", desc := "()Z" } : Jvm.MethodName)) ∈ lw_t := lw_m (lw_in_3 (List.mem_of_getElem? (i := 30) (by decide +kernel))) rfl
theorem mt_3_31 : (Jvm.Cond.selects "SourceDesk$Machine" ({ cls := "SourceDesk$Machine", name := "spend", desc := "()Z" } : Jvm.MethodName) ({ cls := "SourceDesk$Machine", name := "spend", desc := "()Z" } : Jvm.MethodName)) ∈ lw_t := lw_m (lw_in_3 (List.mem_of_getElem? (i := 31) (by decide +kernel))) rfl
theorem mt_3_32 : (Jvm.Cond.code ({ cls := "SourceDesk$Machine", name := "spend", desc := "()Z" } : Jvm.MethodName) prog_5_method_3_code (1 : Nat) (Option.some Jvm.ClassFile.FieldType.boolean)) ∈ lw_t := lw_m (lw_in_3 (List.mem_of_getElem? (i := 32) (by decide +kernel))) rfl
theorem mt_3_33 : (Jvm.Cond.methodLink "SourceDesk$Machine" (44 : Nat) ({ cls := "SourceDesk$Listing", name := "op", desc := "(I)I" } : Jvm.MethodName)) ∈ lw_t := lw_m (lw_in_3 (List.mem_of_getElem? (i := 33) (by decide +kernel))) rfl
theorem mt_3_34 : (Jvm.Cond.methodLink "SourceDesk$Machine" (48 : Nat) ({ cls := "SourceDesk$Listing", name := "number", desc := "(I)I" } : Jvm.MethodName)) ∈ lw_t := lw_m (lw_in_3 (List.mem_of_getElem? (i := 34) (by decide +kernel))) rfl
theorem mt_3_35 : (Jvm.Cond.methodLink "SourceDesk$Machine" (51 : Nat) ({ cls := "SourceDesk$Machine", name := "step", desc := "(III)I" } : Jvm.MethodName)) ∈ lw_t := lw_m (lw_in_3 (List.mem_of_getElem? (i := 35) (by decide +kernel))) rfl
theorem mt_3_37 : (Jvm.Cond.instanceMethod ({ cls := "SourceDesk$Machine", name := "step", desc := "(III)I" } : Jvm.MethodName)) ∈ lw_t := lw_m (lw_in_3 (List.mem_of_getElem? (i := 37) (by decide +kernel))) rfl
theorem mt_3_38 : (Jvm.Cond.code ({ cls := "SourceDesk$Machine", name := "step", desc := "(III)I" } : Jvm.MethodName) prog_5_method_5_code (4 : Nat) (Option.some Jvm.ClassFile.FieldType.int)) ∈ lw_t := lw_m (lw_in_3 (List.mem_of_getElem? (i := 38) (by decide +kernel))) rfl
theorem mt_3_39 : (Jvm.Cond.methodLink "SourceDesk$Machine" (55 : Nat) ({ cls := "SourceDesk$Machine", name := "pop", desc := "()I" } : Jvm.MethodName)) ∈ lw_t := lw_m (lw_in_3 (List.mem_of_getElem? (i := 39) (by decide +kernel))) rfl
theorem mt_3_40 : (Jvm.Cond.instanceMethod ({ cls := "SourceDesk$Machine", name := "pop", desc := "()I" } : Jvm.MethodName)) ∈ lw_t := lw_m (lw_in_3 (List.mem_of_getElem? (i := 40) (by decide +kernel))) rfl
theorem mt_3_41 : (Jvm.Cond.selects "SourceDesk$Machine" ({ cls := "SourceDesk$Machine", name := "pop", desc := "()I" } : Jvm.MethodName) ({ cls := "SourceDesk$Machine", name := "pop", desc := "()I" } : Jvm.MethodName)) ∈ lw_t := lw_m (lw_in_3 (List.mem_of_getElem? (i := 41) (by decide +kernel))) rfl
theorem mt_3_42 : (Jvm.Cond.code ({ cls := "SourceDesk$Machine", name := "pop", desc := "()I" } : Jvm.MethodName) prog_5_method_9_code (1 : Nat) (Option.some Jvm.ClassFile.FieldType.int)) ∈ lw_t := lw_m (lw_in_3 (List.mem_of_getElem? (i := 42) (by decide +kernel))) rfl
theorem mt_3_43 : (Jvm.Cond.methodLink "SourceDesk$Machine" (59 : Nat) ({ cls := "SourceDesk$Machine", name := "perform", desc := "(II)V" } : Jvm.MethodName)) ∈ lw_t := lw_m (lw_in_3 (List.mem_of_getElem? (i := 43) (by decide +kernel))) rfl
theorem mt_3_44 : (Jvm.Cond.instanceMethod ({ cls := "SourceDesk$Machine", name := "perform", desc := "(II)V" } : Jvm.MethodName)) ∈ lw_t := lw_m (lw_in_3 (List.mem_of_getElem? (i := 44) (by decide +kernel))) rfl
theorem mt_3_45 : (Jvm.Cond.selects "SourceDesk$Machine" ({ cls := "SourceDesk$Machine", name := "perform", desc := "(II)V" } : Jvm.MethodName) ({ cls := "SourceDesk$Machine", name := "perform", desc := "(II)V" } : Jvm.MethodName)) ∈ lw_t := lw_m (lw_in_3 (List.mem_of_getElem? (i := 45) (by decide +kernel))) rfl
theorem mt_3_46 : (Jvm.Cond.code ({ cls := "SourceDesk$Machine", name := "perform", desc := "(II)V" } : Jvm.MethodName) prog_5_method_6_code (4 : Nat) (Option.none : Option Jvm.ClassFile.FieldType)) ∈ lw_t := lw_m (lw_in_3 (List.mem_of_getElem? (i := 46) (by decide +kernel))) rfl
theorem mt_3_47 : (Jvm.Cond.methodLink "SourceDesk$Machine" (63 : Nat) ({ cls := "SourceDesk$Machine", name := "push", desc := "(I)V" } : Jvm.MethodName)) ∈ lw_t := lw_m (lw_in_3 (List.mem_of_getElem? (i := 47) (by decide +kernel))) rfl
theorem mt_3_49 : (Jvm.Cond.instanceMethod ({ cls := "SourceDesk$Machine", name := "push", desc := "(I)V" } : Jvm.MethodName)) ∈ lw_t := lw_m (lw_in_3 (List.mem_of_getElem? (i := 49) (by decide +kernel))) rfl
theorem mt_3_50 : (Jvm.Cond.code ({ cls := "SourceDesk$Machine", name := "push", desc := "(I)V" } : Jvm.MethodName) prog_5_method_8_code (2 : Nat) (Option.none : Option Jvm.ClassFile.FieldType)) ∈ lw_t := lw_m (lw_in_3 (List.mem_of_getElem? (i := 50) (by decide +kernel))) rfl
theorem mt_3_51 : (Jvm.Cond.methodLink "SourceDesk$Machine" (67 : Nat) ({ cls := "SourceDesk$Machine", name := "variable", desc := "(I)I" } : Jvm.MethodName)) ∈ lw_t := lw_m (lw_in_3 (List.mem_of_getElem? (i := 51) (by decide +kernel))) rfl
theorem mt_3_52 : (Jvm.Cond.instanceMethod ({ cls := "SourceDesk$Machine", name := "variable", desc := "(I)I" } : Jvm.MethodName)) ∈ lw_t := lw_m (lw_in_3 (List.mem_of_getElem? (i := 52) (by decide +kernel))) rfl
theorem mt_3_53 : (Jvm.Cond.selects "SourceDesk$Machine" ({ cls := "SourceDesk$Machine", name := "variable", desc := "(I)I" } : Jvm.MethodName) ({ cls := "SourceDesk$Machine", name := "variable", desc := "(I)I" } : Jvm.MethodName)) ∈ lw_t := lw_m (lw_in_3 (List.mem_of_getElem? (i := 53) (by decide +kernel))) rfl
theorem mt_3_54 : (Jvm.Cond.code ({ cls := "SourceDesk$Machine", name := "variable", desc := "(I)I" } : Jvm.MethodName) prog_5_method_12_code (2 : Nat) (Option.some Jvm.ClassFile.FieldType.int)) ∈ lw_t := lw_m (lw_in_3 (List.mem_of_getElem? (i := 54) (by decide +kernel))) rfl
theorem mt_3_55 : (Jvm.Cond.methodLink "SourceDesk$Machine" (70 : Nat) ({ cls := "SourceDesk$Machine", name := "keepVariable", desc := "(II)V" } : Jvm.MethodName)) ∈ lw_t := lw_m (lw_in_3 (List.mem_of_getElem? (i := 55) (by decide +kernel))) rfl
theorem mt_3_57 : (Jvm.Cond.instanceMethod ({ cls := "SourceDesk$Machine", name := "keepVariable", desc := "(II)V" } : Jvm.MethodName)) ∈ lw_t := lw_m (lw_in_3 (List.mem_of_getElem? (i := 57) (by decide +kernel))) rfl
theorem mt_3_58 : (Jvm.Cond.code ({ cls := "SourceDesk$Machine", name := "keepVariable", desc := "(II)V" } : Jvm.MethodName) prog_5_method_11_code (3 : Nat) (Option.none : Option Jvm.ClassFile.FieldType)) ∈ lw_t := lw_m (lw_in_3 (List.mem_of_getElem? (i := 58) (by decide +kernel))) rfl
theorem mt_3_59 : (Jvm.Cond.methodLink "SourceDesk$Machine" (73 : Nat) ({ cls := "SourceDesk$Machine", name := "print", desc := "(I)V" } : Jvm.MethodName)) ∈ lw_t := lw_m (lw_in_3 (List.mem_of_getElem? (i := 59) (by decide +kernel))) rfl
theorem mt_3_61 : (Jvm.Cond.instanceMethod ({ cls := "SourceDesk$Machine", name := "print", desc := "(I)V" } : Jvm.MethodName)) ∈ lw_t := lw_m (lw_in_3 (List.mem_of_getElem? (i := 61) (by decide +kernel))) rfl
theorem mt_3_62 : (Jvm.Cond.code ({ cls := "SourceDesk$Machine", name := "print", desc := "(I)V" } : Jvm.MethodName) prog_5_method_10_code (2 : Nat) (Option.none : Option Jvm.ClassFile.FieldType)) ∈ lw_t := lw_m (lw_in_3 (List.mem_of_getElem? (i := 62) (by decide +kernel))) rfl
theorem mt_3_63 : (Jvm.Cond.methodLink "SourceDesk$Machine" (76 : Nat) ({ cls := "SourceDesk$Machine", name := "combined", desc := "(III)I" } : Jvm.MethodName)) ∈ lw_t := lw_m (lw_in_3 (List.mem_of_getElem? (i := 63) (by decide +kernel))) rfl
theorem mt_3_64 : (Jvm.Cond.static ({ cls := "SourceDesk$Machine", name := "combined", desc := "(III)I" } : Jvm.MethodName)) ∈ lw_t := lw_m (lw_in_3 (List.mem_of_getElem? (i := 64) (by decide +kernel))) rfl
theorem mt_3_65 : (Jvm.Cond.code ({ cls := "SourceDesk$Machine", name := "combined", desc := "(III)I" } : Jvm.MethodName) prog_5_method_7_code (3 : Nat) (Option.some Jvm.ClassFile.FieldType.int)) ∈ lw_t := lw_m (lw_in_3 (List.mem_of_getElem? (i := 65) (by decide +kernel))) rfl
theorem mt_3_66 : (Jvm.Cond.methodLink "SourceDesk" (129 : Nat) ({ cls := "SourceDesk$Machine", name := "printed", desc := "()I" } : Jvm.MethodName)) ∈ lw_t := lw_m (lw_in_3 (List.mem_of_getElem? (i := 66) (by decide +kernel))) rfl
theorem mt_3_67 : (Jvm.Cond.instanceMethod ({ cls := "SourceDesk$Machine", name := "printed", desc := "()I" } : Jvm.MethodName)) ∈ lw_t := lw_m (lw_in_3 (List.mem_of_getElem? (i := 67) (by decide +kernel))) rfl
theorem mt_3_68 : (Jvm.Cond.selects "SourceDesk$Machine" ({ cls := "SourceDesk$Machine", name := "printed", desc := "()I" } : Jvm.MethodName) ({ cls := "SourceDesk$Machine", name := "printed", desc := "()I" } : Jvm.MethodName)) ∈ lw_t := lw_m (lw_in_3 (List.mem_of_getElem? (i := 68) (by decide +kernel))) rfl
theorem mt_3_69 : (Jvm.Cond.code ({ cls := "SourceDesk$Machine", name := "printed", desc := "()I" } : Jvm.MethodName) prog_5_method_13_code (1 : Nat) (Option.some Jvm.ClassFile.FieldType.int)) ∈ lw_t := lw_m (lw_in_3 (List.mem_of_getElem? (i := 69) (by decide +kernel))) rfl
theorem mt_3_74 : (Jvm.Cond.methodLink "SourceDesk" (132 : Nat) ({ cls := "SourceDesk$Tree", name := "stands", desc := "()Z" } : Jvm.MethodName)) ∈ lw_t := lw_m (lw_in_3 (List.mem_of_getElem? (i := 74) (by decide +kernel))) rfl
theorem mt_3_75 : (Jvm.Cond.instanceMethod ({ cls := "SourceDesk$Tree", name := "stands", desc := "()Z" } : Jvm.MethodName)) ∈ lw_t := lw_m (lw_in_3 (List.mem_of_getElem? (i := 75) (by decide +kernel))) rfl
theorem mt_3_76 : (Jvm.Cond.selects "SourceDesk$Tree" ({ cls := "SourceDesk$Tree", name := "stands", desc := "()Z" } : Jvm.MethodName) ({ cls := "SourceDesk$Tree", name := "stands", desc := "()Z" } : Jvm.MethodName)) ∈ lw_t := lw_m (lw_in_3 (List.mem_of_getElem? (i := 76) (by decide +kernel))) rfl
theorem mt_3_77 : (Jvm.Cond.code ({ cls := "SourceDesk$Tree", name := "stands", desc := "()Z" } : Jvm.MethodName) prog_7_method_13_code (1 : Nat) (Option.some Jvm.ClassFile.FieldType.boolean)) ∈ lw_t := lw_m (lw_in_3 (List.mem_of_getElem? (i := 77) (by decide +kernel))) rfl
theorem mt_3_78 : (Jvm.Cond.methodLink "SourceDesk" (136 : Nat) ({ cls := "SourceDesk$Walker", name := "follow", desc := "(LSourceDesk$Tree;LSourceDesk$Machine;)Z" } : Jvm.MethodName)) ∈ lw_t := lw_m (lw_in_3 (List.mem_of_getElem? (i := 78) (by decide +kernel))) rfl
theorem mt_3_79 : (Jvm.Cond.static ({ cls := "SourceDesk$Walker", name := "follow", desc := "(LSourceDesk$Tree;LSourceDesk$Machine;)Z" } : Jvm.MethodName)) ∈ lw_t := lw_m (lw_in_3 (List.mem_of_getElem? (i := 79) (by decide +kernel))) rfl
theorem mt_3_80 : (Jvm.Cond.code ({ cls := "SourceDesk$Walker", name := "follow", desc := "(LSourceDesk$Tree;LSourceDesk$Machine;)Z" } : Jvm.MethodName) prog_8_method_2_code (2 : Nat) (Option.some Jvm.ClassFile.FieldType.boolean)) ∈ lw_t := lw_m (lw_in_3 (List.mem_of_getElem? (i := 80) (by decide +kernel))) rfl
theorem mt_3_81 : (Jvm.Cond.methodLink "SourceDesk$Walker" (9 : Nat) ({ cls := "SourceDesk$Tree", name := "first", desc := "()I" } : Jvm.MethodName)) ∈ lw_t := lw_m (lw_in_3 (List.mem_of_getElem? (i := 81) (by decide +kernel))) rfl
theorem mt_3_82 : (Jvm.Cond.methodLink "SourceDesk$Walker" (15 : Nat) ({ cls := "SourceDesk$Walker", name := "walkFrom", desc := "(LSourceDesk$Tree;LSourceDesk$Machine;II)Z" } : Jvm.MethodName)) ∈ lw_t := lw_m (lw_in_3 (List.mem_of_getElem? (i := 82) (by decide +kernel))) rfl
theorem mt_3_83 : (Jvm.Cond.static ({ cls := "SourceDesk$Walker", name := "walkFrom", desc := "(LSourceDesk$Tree;LSourceDesk$Machine;II)Z" } : Jvm.MethodName)) ∈ lw_t := lw_m (lw_in_3 (List.mem_of_getElem? (i := 83) (by decide +kernel))) rfl
theorem mt_3_84 : (Jvm.Cond.code ({ cls := "SourceDesk$Walker", name := "walkFrom", desc := "(LSourceDesk$Tree;LSourceDesk$Machine;II)Z" } : Jvm.MethodName) prog_8_method_3_code (7 : Nat) (Option.some Jvm.ClassFile.FieldType.boolean)) ∈ lw_t := lw_m (lw_in_3 (List.mem_of_getElem? (i := 84) (by decide +kernel))) rfl
theorem mt_3_85 : (Jvm.Cond.methodLink "SourceDesk$Walker" (21 : Nat) ({ cls := "SourceDesk$Tree", name := "holds", desc := "(I)Z" } : Jvm.MethodName)) ∈ lw_t := lw_m (lw_in_3 (List.mem_of_getElem? (i := 85) (by decide +kernel))) rfl
theorem mt_3_86 : (Jvm.Cond.methodLink "SourceDesk$Walker" (25 : Nat) ({ cls := "SourceDesk$Tree", name := "kind", desc := "(I)I" } : Jvm.MethodName)) ∈ lw_t := lw_m (lw_in_3 (List.mem_of_getElem? (i := 86) (by decide +kernel))) rfl
theorem mt_3_87 : (Jvm.Cond.methodLink "SourceDesk$Walker" (29 : Nat) ({ cls := "SourceDesk$Walker", name := "walkLoop", desc := "(LSourceDesk$Tree;LSourceDesk$Machine;II)Z" } : Jvm.MethodName)) ∈ lw_t := lw_m (lw_in_3 (List.mem_of_getElem? (i := 87) (by decide +kernel))) rfl
theorem mt_3_88 : (Jvm.Cond.static ({ cls := "SourceDesk$Walker", name := "walkLoop", desc := "(LSourceDesk$Tree;LSourceDesk$Machine;II)Z" } : Jvm.MethodName)) ∈ lw_t := lw_m (lw_in_3 (List.mem_of_getElem? (i := 88) (by decide +kernel))) rfl
theorem mt_3_89 : (Jvm.Cond.code ({ cls := "SourceDesk$Walker", name := "walkLoop", desc := "(LSourceDesk$Tree;LSourceDesk$Machine;II)Z" } : Jvm.MethodName) prog_8_method_4_code (5 : Nat) (Option.some Jvm.ClassFile.FieldType.boolean)) ∈ lw_t := lw_m (lw_in_3 (List.mem_of_getElem? (i := 89) (by decide +kernel))) rfl
theorem mt_3_90 : (Jvm.Cond.methodLink "SourceDesk$Walker" (38 : Nat) ({ cls := "SourceDesk$Machine", name := "spend", desc := "()Z" } : Jvm.MethodName)) ∈ lw_t := lw_m (lw_in_3 (List.mem_of_getElem? (i := 90) (by decide +kernel))) rfl
theorem mt_3_91 : (Jvm.Cond.methodLink "SourceDesk$Walker" (44 : Nat) ({ cls := "SourceDesk$Walker", name := "valueOf", desc := "(LSourceDesk$Tree;LSourceDesk$Machine;I)I" } : Jvm.MethodName)) ∈ lw_t := lw_m (lw_in_3 (List.mem_of_getElem? (i := 91) (by decide +kernel))) rfl
theorem mt_3_92 : (Jvm.Cond.static ({ cls := "SourceDesk$Walker", name := "valueOf", desc := "(LSourceDesk$Tree;LSourceDesk$Machine;I)I" } : Jvm.MethodName)) ∈ lw_t := lw_m (lw_in_3 (List.mem_of_getElem? (i := 92) (by decide +kernel))) rfl
theorem mt_3_93 : (Jvm.Cond.code ({ cls := "SourceDesk$Walker", name := "valueOf", desc := "(LSourceDesk$Tree;LSourceDesk$Machine;I)I" } : Jvm.MethodName) prog_8_method_6_code (3 : Nat) (Option.some Jvm.ClassFile.FieldType.int)) ∈ lw_t := lw_m (lw_in_3 (List.mem_of_getElem? (i := 93) (by decide +kernel))) rfl
theorem mt_3_94 : (Jvm.Cond.methodLink "SourceDesk$Walker" (51 : Nat) ({ cls := "SourceDesk$Tree", name := "from", desc := "(I)I" } : Jvm.MethodName)) ∈ lw_t := lw_m (lw_in_3 (List.mem_of_getElem? (i := 94) (by decide +kernel))) rfl
theorem mt_3_95 : (Jvm.Cond.instanceMethod ({ cls := "SourceDesk$Tree", name := "from", desc := "(I)I" } : Jvm.MethodName)) ∈ lw_t := lw_m (lw_in_3 (List.mem_of_getElem? (i := 95) (by decide +kernel))) rfl
theorem mt_3_96 : (Jvm.Cond.selects "SourceDesk$Tree" ({ cls := "SourceDesk$Tree", name := "from", desc := "(I)I" } : Jvm.MethodName) ({ cls := "SourceDesk$Tree", name := "from", desc := "(I)I" } : Jvm.MethodName)) ∈ lw_t := lw_m (lw_in_3 (List.mem_of_getElem? (i := 96) (by decide +kernel))) rfl
theorem mt_3_97 : (Jvm.Cond.code ({ cls := "SourceDesk$Tree", name := "from", desc := "(I)I" } : Jvm.MethodName) prog_7_method_20_code (2 : Nat) (Option.some Jvm.ClassFile.FieldType.int)) ∈ lw_t := lw_m (lw_in_3 (List.mem_of_getElem? (i := 97) (by decide +kernel))) rfl
theorem mt_3_98 : (Jvm.Cond.methodLink "SourceDesk$Walker" (54 : Nat) ({ cls := "SourceDesk$Tree", name := "mark", desc := "(I)I" } : Jvm.MethodName)) ∈ lw_t := lw_m (lw_in_3 (List.mem_of_getElem? (i := 98) (by decide +kernel))) rfl
theorem mt_3_99 : (Jvm.Cond.methodLink "SourceDesk$Walker" (57 : Nat) ({ cls := "SourceDesk$Walker", name := "perform", desc := "(LSourceDesk$Tree;LSourceDesk$Machine;II)V" } : Jvm.MethodName)) ∈ lw_t := lw_m (lw_in_3 (List.mem_of_getElem? (i := 99) (by decide +kernel))) rfl
theorem mt_3_100 : (Jvm.Cond.static ({ cls := "SourceDesk$Walker", name := "perform", desc := "(LSourceDesk$Tree;LSourceDesk$Machine;II)V" } : Jvm.MethodName)) ∈ lw_t := lw_m (lw_in_3 (List.mem_of_getElem? (i := 100) (by decide +kernel))) rfl
theorem mt_3_101 : (Jvm.Cond.code ({ cls := "SourceDesk$Walker", name := "perform", desc := "(LSourceDesk$Tree;LSourceDesk$Machine;II)V" } : Jvm.MethodName) prog_8_method_7_code (6 : Nat) (Option.none : Option Jvm.ClassFile.FieldType)) ∈ lw_t := lw_m (lw_in_3 (List.mem_of_getElem? (i := 101) (by decide +kernel))) rfl
theorem mt_3_102 : (Jvm.Cond.methodLink "SourceDesk$Walker" (67 : Nat) ({ cls := "SourceDesk$Tree", name := "source", desc := "()LSourceDesk$Listing;" } : Jvm.MethodName)) ∈ lw_t := lw_m (lw_in_3 (List.mem_of_getElem? (i := 102) (by decide +kernel))) rfl
theorem mt_3_103 : (Jvm.Cond.methodLink "SourceDesk$Walker" (71 : Nat) ({ cls := "SourceDesk$Listing", name := "op", desc := "(I)I" } : Jvm.MethodName)) ∈ lw_t := lw_m (lw_in_3 (List.mem_of_getElem? (i := 103) (by decide +kernel))) rfl
theorem mt_3_104 : (Jvm.Cond.methodLink "SourceDesk$Walker" (76 : Nat) ({ cls := "SourceDesk$Listing", name := "number", desc := "(I)I" } : Jvm.MethodName)) ∈ lw_t := lw_m (lw_in_3 (List.mem_of_getElem? (i := 104) (by decide +kernel))) rfl
theorem mt_3_105 : (Jvm.Cond.methodLink "SourceDesk$Walker" (79 : Nat) ({ cls := "SourceDesk$Machine", name := "perform", desc := "(II)V" } : Jvm.MethodName)) ∈ lw_t := lw_m (lw_in_3 (List.mem_of_getElem? (i := 105) (by decide +kernel))) rfl
theorem mt_3_106 : (Jvm.Cond.methodLink "SourceDesk$Walker" (64 : Nat) ({ cls := "SourceDesk$Machine", name := "pop", desc := "()I" } : Jvm.MethodName)) ∈ lw_t := lw_m (lw_in_3 (List.mem_of_getElem? (i := 106) (by decide +kernel))) rfl
theorem mt_3_107 : (Jvm.Cond.methodLink "SourceDesk$Walker" (48 : Nat) ({ cls := "SourceDesk$Tree", name := "part", desc := "(I)I" } : Jvm.MethodName)) ∈ lw_t := lw_m (lw_in_3 (List.mem_of_getElem? (i := 107) (by decide +kernel))) rfl
theorem mt_3_108 : (Jvm.Cond.methodLink "SourceDesk$Walker" (32 : Nat) ({ cls := "SourceDesk$Walker", name := "walkStatement", desc := "(LSourceDesk$Tree;LSourceDesk$Machine;II)Z" } : Jvm.MethodName)) ∈ lw_t := lw_m (lw_in_3 (List.mem_of_getElem? (i := 108) (by decide +kernel))) rfl
theorem mt_3_109 : (Jvm.Cond.static ({ cls := "SourceDesk$Walker", name := "walkStatement", desc := "(LSourceDesk$Tree;LSourceDesk$Machine;II)Z" } : Jvm.MethodName)) ∈ lw_t := lw_m (lw_in_3 (List.mem_of_getElem? (i := 109) (by decide +kernel))) rfl
theorem mt_3_110 : (Jvm.Cond.code ({ cls := "SourceDesk$Walker", name := "walkStatement", desc := "(LSourceDesk$Tree;LSourceDesk$Machine;II)Z" } : Jvm.MethodName) prog_8_method_5_code (7 : Nat) (Option.some Jvm.ClassFile.FieldType.boolean)) ∈ lw_t := lw_m (lw_in_3 (List.mem_of_getElem? (i := 110) (by decide +kernel))) rfl
theorem mt_3_111 : (Jvm.Cond.methodLink "SourceDesk$Walker" (61 : Nat) ({ cls := "SourceDesk$Tree", name := "other", desc := "(I)I" } : Jvm.MethodName)) ∈ lw_t := lw_m (lw_in_3 (List.mem_of_getElem? (i := 111) (by decide +kernel))) rfl
theorem mt_3_112 : (Jvm.Cond.methodLink "SourceDesk$Walker" (35 : Nat) ({ cls := "SourceDesk$Tree", name := "follower", desc := "(I)I" } : Jvm.MethodName)) ∈ lw_t := lw_m (lw_in_3 (List.mem_of_getElem? (i := 112) (by decide +kernel))) rfl
theorem mt_3_117 : (Jvm.Cond.methodLink "SourceDesk" (142 : Nat) ({ cls := "SourceDesk$Machine", name := "kept", desc := "(I)I" } : Jvm.MethodName)) ∈ lw_t := lw_m (lw_in_3 (List.mem_of_getElem? (i := 117) (by decide +kernel))) rfl
theorem mt_3_118 : (Jvm.Cond.instanceMethod ({ cls := "SourceDesk$Machine", name := "kept", desc := "(I)I" } : Jvm.MethodName)) ∈ lw_t := lw_m (lw_in_3 (List.mem_of_getElem? (i := 118) (by decide +kernel))) rfl
theorem mt_3_119 : (Jvm.Cond.selects "SourceDesk$Machine" ({ cls := "SourceDesk$Machine", name := "kept", desc := "(I)I" } : Jvm.MethodName) ({ cls := "SourceDesk$Machine", name := "kept", desc := "(I)I" } : Jvm.MethodName)) ∈ lw_t := lw_m (lw_in_3 (List.mem_of_getElem? (i := 119) (by decide +kernel))) rfl
theorem mt_3_120 : (Jvm.Cond.code ({ cls := "SourceDesk$Machine", name := "kept", desc := "(I)I" } : Jvm.MethodName) prog_5_method_15_code (2 : Nat) (Option.some Jvm.ClassFile.FieldType.int)) ∈ lw_t := lw_m (lw_in_3 (List.mem_of_getElem? (i := 120) (by decide +kernel))) rfl
theorem mt_3_125 : (Jvm.Cond.methodLink "SourceDesk" (145 : Nat) ({ cls := "SourceDesk$Machine", name := "done", desc := "()I" } : Jvm.MethodName)) ∈ lw_t := lw_m (lw_in_3 (List.mem_of_getElem? (i := 125) (by decide +kernel))) rfl
theorem mt_3_126 : (Jvm.Cond.instanceMethod ({ cls := "SourceDesk$Machine", name := "done", desc := "()I" } : Jvm.MethodName)) ∈ lw_t := lw_m (lw_in_3 (List.mem_of_getElem? (i := 126) (by decide +kernel))) rfl
theorem mt_3_127 : (Jvm.Cond.selects "SourceDesk$Machine" ({ cls := "SourceDesk$Machine", name := "done", desc := "()I" } : Jvm.MethodName) ({ cls := "SourceDesk$Machine", name := "done", desc := "()I" } : Jvm.MethodName)) ∈ lw_t := lw_m (lw_in_3 (List.mem_of_getElem? (i := 127) (by decide +kernel))) rfl
theorem mt_3_128 : (Jvm.Cond.code ({ cls := "SourceDesk$Machine", name := "done", desc := "()I" } : Jvm.MethodName) prog_5_method_14_code (1 : Nat) (Option.some Jvm.ClassFile.FieldType.int)) ∈ lw_t := lw_m (lw_in_3 (List.mem_of_getElem? (i := 128) (by decide +kernel))) rfl
theorem mt_3_129 : (Jvm.Cond.methodLink "SourceDesk" (148 : Nat) ({ cls := "SourceDesk$Tree", name := "size", desc := "()I" } : Jvm.MethodName)) ∈ lw_t := lw_m (lw_in_3 (List.mem_of_getElem? (i := 129) (by decide +kernel))) rfl
theorem mt_3_130 : (Jvm.Cond.instanceMethod ({ cls := "SourceDesk$Tree", name := "size", desc := "()I" } : Jvm.MethodName)) ∈ lw_t := lw_m (lw_in_3 (List.mem_of_getElem? (i := 130) (by decide +kernel))) rfl
theorem mt_3_131 : (Jvm.Cond.selects "SourceDesk$Tree" ({ cls := "SourceDesk$Tree", name := "size", desc := "()I" } : Jvm.MethodName) ({ cls := "SourceDesk$Tree", name := "size", desc := "()I" } : Jvm.MethodName)) ∈ lw_t := lw_m (lw_in_3 (List.mem_of_getElem? (i := 131) (by decide +kernel))) rfl
theorem mt_3_132 : (Jvm.Cond.code ({ cls := "SourceDesk$Tree", name := "size", desc := "()I" } : Jvm.MethodName) prog_7_method_14_code (1 : Nat) (Option.some Jvm.ClassFile.FieldType.int)) ∈ lw_t := lw_m (lw_in_3 (List.mem_of_getElem? (i := 132) (by decide +kernel))) rfl
theorem mt_3_133 : (Jvm.Cond.methodLink "SourceDesk" (149 : Nat) ({ cls := "SourceDesk$Tree", name := "sizeOf", desc := "(I)I" } : Jvm.MethodName)) ∈ lw_t := lw_m (lw_in_3 (List.mem_of_getElem? (i := 133) (by decide +kernel))) rfl
theorem mt_3_134 : (Jvm.Cond.instanceMethod ({ cls := "SourceDesk$Tree", name := "sizeOf", desc := "(I)I" } : Jvm.MethodName)) ∈ lw_t := lw_m (lw_in_3 (List.mem_of_getElem? (i := 134) (by decide +kernel))) rfl
theorem mt_3_135 : (Jvm.Cond.selects "SourceDesk$Tree" ({ cls := "SourceDesk$Tree", name := "sizeOf", desc := "(I)I" } : Jvm.MethodName) ({ cls := "SourceDesk$Tree", name := "sizeOf", desc := "(I)I" } : Jvm.MethodName)) ∈ lw_t := lw_m (lw_in_3 (List.mem_of_getElem? (i := 135) (by decide +kernel))) rfl
theorem mt_3_136 : (Jvm.Cond.code ({ cls := "SourceDesk$Tree", name := "sizeOf", desc := "(I)I" } : Jvm.MethodName) prog_7_method_15_code (4 : Nat) (Option.some Jvm.ClassFile.FieldType.int)) ∈ lw_t := lw_m (lw_in_3 (List.mem_of_getElem? (i := 136) (by decide +kernel))) rfl
theorem mt_3_137 : (Jvm.Cond.methodLink "SourceDesk" (152 : Nat) ({ cls := "SourceDesk$Tree", name := "depth", desc := "()I" } : Jvm.MethodName)) ∈ lw_t := lw_m (lw_in_3 (List.mem_of_getElem? (i := 137) (by decide +kernel))) rfl
theorem mt_3_138 : (Jvm.Cond.instanceMethod ({ cls := "SourceDesk$Tree", name := "depth", desc := "()I" } : Jvm.MethodName)) ∈ lw_t := lw_m (lw_in_3 (List.mem_of_getElem? (i := 138) (by decide +kernel))) rfl
theorem mt_3_139 : (Jvm.Cond.selects "SourceDesk$Tree" ({ cls := "SourceDesk$Tree", name := "depth", desc := "()I" } : Jvm.MethodName) ({ cls := "SourceDesk$Tree", name := "depth", desc := "()I" } : Jvm.MethodName)) ∈ lw_t := lw_m (lw_in_3 (List.mem_of_getElem? (i := 139) (by decide +kernel))) rfl
theorem mt_3_140 : (Jvm.Cond.code ({ cls := "SourceDesk$Tree", name := "depth", desc := "()I" } : Jvm.MethodName) prog_7_method_16_code (1 : Nat) (Option.some Jvm.ClassFile.FieldType.int)) ∈ lw_t := lw_m (lw_in_3 (List.mem_of_getElem? (i := 140) (by decide +kernel))) rfl
theorem mt_3_141 : (Jvm.Cond.methodLink "SourceDesk" (155 : Nat) ({ cls := "SourceDesk$Machine", name := "variable", desc := "(I)I" } : Jvm.MethodName)) ∈ lw_t := lw_m (lw_in_3 (List.mem_of_getElem? (i := 141) (by decide +kernel))) rfl
theorem mt_3_147 : (Jvm.Cond.methodLink "SourceDeskModel" (1 : Nat) ({ cls := "java/lang/Object", name := "<init>", desc := "()V" } : Jvm.MethodName)) ∈ lw_t := lw_m (lw_in_3 (List.mem_of_getElem? (i := 147) (by decide +kernel))) rfl
theorem mt_3_148 : (Jvm.Cond.fieldLink "SourceDeskModel" (7 : Nat) "SourceDeskModel" "op" "[I") ∈ lw_t := lw_m (lw_in_3 (List.mem_of_getElem? (i := 148) (by decide +kernel))) rfl
theorem mt_3_149 : (Jvm.Cond.fieldLink "SourceDeskModel" (13 : Nat) "SourceDeskModel" "to" "[I") ∈ lw_t := lw_m (lw_in_3 (List.mem_of_getElem? (i := 149) (by decide +kernel))) rfl
theorem mt_3_150 : (Jvm.Cond.fieldLink "SourceDeskModel" (16 : Nat) "SourceDeskModel" "newOp" "[I") ∈ lw_t := lw_m (lw_in_3 (List.mem_of_getElem? (i := 150) (by decide +kernel))) rfl
theorem mt_3_151 : (Jvm.Cond.fieldLink "SourceDeskModel" (19 : Nat) "SourceDeskModel" "newTo" "[I") ∈ lw_t := lw_m (lw_in_3 (List.mem_of_getElem? (i := 151) (by decide +kernel))) rfl
theorem mt_3_152 : (Jvm.Cond.fieldLink "SourceDeskModel" (22 : Nat) "SourceDeskModel" "draft" "[I") ∈ lw_t := lw_m (lw_in_3 (List.mem_of_getElem? (i := 152) (by decide +kernel))) rfl
theorem mt_3_153 : (Jvm.Cond.fieldLink "SourceDeskModel" (25 : Nat) "SourceDeskModel" "text" "[I") ∈ lw_t := lw_m (lw_in_3 (List.mem_of_getElem? (i := 153) (by decide +kernel))) rfl
theorem mt_3_154 : (Jvm.Cond.fieldLink "SourceDeskModel" (64 : Nat) "SourceDeskModel" "many" "I") ∈ lw_t := lw_m (lw_in_3 (List.mem_of_getElem? (i := 154) (by decide +kernel))) rfl
theorem mt_3_155 : (Jvm.Cond.fieldLink "SourceDeskModel" (74 : Nat) "SourceDeskModel" "letters" "I") ∈ lw_t := lw_m (lw_in_3 (List.mem_of_getElem? (i := 155) (by decide +kernel))) rfl
theorem mt_3_156 : (Jvm.Cond.fieldLink "SourceDeskModel" (87 : Nat) "SourceDeskModel" "length" "I") ∈ lw_t := lw_m (lw_in_3 (List.mem_of_getElem? (i := 156) (by decide +kernel))) rfl
theorem mt_3_157 : (Jvm.Cond.fieldLink "SourceDeskModel" (28 : Nat) "SourceDeskModel" "where" "I") ∈ lw_t := lw_m (lw_in_3 (List.mem_of_getElem? (i := 157) (by decide +kernel))) rfl
theorem mt_3_158 : (Jvm.Cond.fieldLink "SourceDeskModel" (107 : Nat) "SourceDeskModel" "tree" "Z") ∈ lw_t := lw_m (lw_in_3 (List.mem_of_getElem? (i := 158) (by decide +kernel))) rfl
theorem mt_3_159 : (Jvm.Cond.fieldLink "SourceDeskModel" (32 : Nat) "SourceDeskModel" "todo" "[I") ∈ lw_t := lw_m (lw_in_3 (List.mem_of_getElem? (i := 159) (by decide +kernel))) rfl
theorem mt_3_160 : (Jvm.Cond.fieldLink "SourceDeskModel" (35 : Nat) "SourceDeskModel" "with" "[I") ∈ lw_t := lw_m (lw_in_3 (List.mem_of_getElem? (i := 160) (by decide +kernel))) rfl
theorem mt_3_161 : (Jvm.Cond.fieldLink "SourceDeskModel" (38 : Nat) "SourceDeskModel" "holes" "[I") ∈ lw_t := lw_m (lw_in_3 (List.mem_of_getElem? (i := 161) (by decide +kernel))) rfl
theorem mt_3_162 : (Jvm.Cond.fieldLink "SourceDeskModel" (90 : Nat) "SourceDeskModel" "top" "I") ∈ lw_t := lw_m (lw_in_3 (List.mem_of_getElem? (i := 162) (by decide +kernel))) rfl
theorem mt_3_163 : (Jvm.Cond.fieldLink "SourceDeskModel" (145 : Nat) "SourceDeskModel" "hole" "I") ∈ lw_t := lw_m (lw_in_3 (List.mem_of_getElem? (i := 163) (by decide +kernel))) rfl
theorem mt_3_164 : (Jvm.Cond.fieldLink "SourceDeskModel" (121 : Nat) "SourceDeskModel" "at" "I") ∈ lw_t := lw_m (lw_in_3 (List.mem_of_getElem? (i := 164) (by decide +kernel))) rfl
theorem mt_3_165 : (Jvm.Cond.fieldLink "SourceDeskModel" (118 : Nat) "SourceDeskModel" "made" "I") ∈ lw_t := lw_m (lw_in_3 (List.mem_of_getElem? (i := 165) (by decide +kernel))) rfl
theorem mt_3_166 : (Jvm.Cond.fieldLink "SourceDeskModel" (41 : Nat) "SourceDeskModel" "variable" "[I") ∈ lw_t := lw_m (lw_in_3 (List.mem_of_getElem? (i := 166) (by decide +kernel))) rfl
theorem mt_3_167 : (Jvm.Cond.fieldLink "SourceDeskModel" (44 : Nat) "SourceDeskModel" "stack" "[I") ∈ lw_t := lw_m (lw_in_3 (List.mem_of_getElem? (i := 167) (by decide +kernel))) rfl
theorem mt_3_168 : (Jvm.Cond.fieldLink "SourceDeskModel" (47 : Nat) "SourceDeskModel" "signs" "[I") ∈ lw_t := lw_m (lw_in_3 (List.mem_of_getElem? (i := 168) (by decide +kernel))) rfl
theorem mt_3_169 : (Jvm.Cond.fieldLink "SourceDeskModel" (50 : Nat) "SourceDeskModel" "output" "[I") ∈ lw_t := lw_m (lw_in_3 (List.mem_of_getElem? (i := 169) (by decide +kernel))) rfl
theorem mt_3_170 : (Jvm.Cond.fieldLink "SourceDeskModel" (53 : Nat) "SourceDeskModel" "blocks" "[I") ∈ lw_t := lw_m (lw_in_3 (List.mem_of_getElem? (i := 170) (by decide +kernel))) rfl
theorem mt_3_171 : (Jvm.Cond.fieldLink "SourceDeskModel" (157 : Nat) "SourceDeskModel" "high" "I") ∈ lw_t := lw_m (lw_in_3 (List.mem_of_getElem? (i := 171) (by decide +kernel))) rfl
theorem mt_3_172 : (Jvm.Cond.fieldLink "SourceDeskModel" (182 : Nat) "SourceDeskModel" "signsHigh" "I") ∈ lw_t := lw_m (lw_in_3 (List.mem_of_getElem? (i := 172) (by decide +kernel))) rfl
theorem mt_3_173 : (Jvm.Cond.fieldLink "SourceDeskModel" (160 : Nat) "SourceDeskModel" "printed" "I") ∈ lw_t := lw_m (lw_in_3 (List.mem_of_getElem? (i := 173) (by decide +kernel))) rfl
theorem mt_3_174 : (Jvm.Cond.fieldLink "SourceDeskModel" (163 : Nat) "SourceDeskModel" "done" "I") ∈ lw_t := lw_m (lw_in_3 (List.mem_of_getElem? (i := 174) (by decide +kernel))) rfl
theorem mt_3_175 : (Jvm.Cond.fieldLink "SourceDeskModel" (185 : Nat) "SourceDeskModel" "value" "I") ∈ lw_t := lw_m (lw_in_3 (List.mem_of_getElem? (i := 175) (by decide +kernel))) rfl
theorem mt_3_237 : (Jvm.Cond.methodLink "SourceDeskModel" (60 : Nat) ({ cls := "SourceDeskModel", name := "isGood", desc := "(II)Z" } : Jvm.MethodName)) ∈ lw_t := lw_m (lw_in_3 (List.mem_of_getElem? (i := 237) (by decide +kernel))) rfl
theorem mt_3_238 : (Jvm.Cond.static ({ cls := "SourceDeskModel", name := "isGood", desc := "(II)Z" } : Jvm.MethodName)) ∈ lw_t := lw_m (lw_in_3 (List.mem_of_getElem? (i := 238) (by decide +kernel))) rfl
theorem mt_3_239 : (Jvm.Cond.code ({ cls := "SourceDeskModel", name := "isGood", desc := "(II)Z" } : Jvm.MethodName) prog_10_method_3_code (2 : Nat) (Option.some Jvm.ClassFile.FieldType.boolean)) ∈ lw_t := lw_m (lw_in_3 (List.mem_of_getElem? (i := 239) (by decide +kernel))) rfl
theorem mt_4_0 : (Jvm.Cond.methodLink "SourceDeskModel" (56 : Nat) ({ cls := "SourceDeskModel", name := "in", desc := "(III)Z" } : Jvm.MethodName)) ∈ lw_t := lw_m (lw_in_4 (List.mem_of_getElem? (i := 0) (by decide +kernel))) rfl
theorem mt_4_1 : (Jvm.Cond.static ({ cls := "SourceDeskModel", name := "in", desc := "(III)Z" } : Jvm.MethodName)) ∈ lw_t := lw_m (lw_in_4 (List.mem_of_getElem? (i := 1) (by decide +kernel))) rfl
theorem mt_4_2 : (Jvm.Cond.code ({ cls := "SourceDeskModel", name := "in", desc := "(III)Z" } : Jvm.MethodName) prog_10_method_2_code (3 : Nat) (Option.some Jvm.ClassFile.FieldType.boolean)) ∈ lw_t := lw_m (lw_in_4 (List.mem_of_getElem? (i := 2) (by decide +kernel))) rfl
theorem mt_4_3 : (Jvm.Cond.methodLink "SourceDeskModel" (67 : Nat) ({ cls := "SourceDeskModel", name := "change", desc := "(III)Z" } : Jvm.MethodName)) ∈ lw_t := lw_m (lw_in_4 (List.mem_of_getElem? (i := 3) (by decide +kernel))) rfl
theorem mt_4_4 : (Jvm.Cond.instanceMethod ({ cls := "SourceDeskModel", name := "change", desc := "(III)Z" } : Jvm.MethodName)) ∈ lw_t := lw_m (lw_in_4 (List.mem_of_getElem? (i := 4) (by decide +kernel))) rfl
theorem mt_4_5 : (Jvm.Cond.selects "SourceDeskModel" ({ cls := "SourceDeskModel", name := "change", desc := "(III)Z" } : Jvm.MethodName) ({ cls := "SourceDeskModel", name := "change", desc := "(III)Z" } : Jvm.MethodName)) ∈ lw_t := lw_m (lw_in_4 (List.mem_of_getElem? (i := 5) (by decide +kernel))) rfl
theorem mt_4_6 : (Jvm.Cond.code ({ cls := "SourceDeskModel", name := "change", desc := "(III)Z" } : Jvm.MethodName) prog_10_method_6_code (4 : Nat) (Option.some Jvm.ClassFile.FieldType.boolean)) ∈ lw_t := lw_m (lw_in_4 (List.mem_of_getElem? (i := 6) (by decide +kernel))) rfl
theorem mt_4_7 : (Jvm.Cond.methodLink "SourceDeskModel" (70 : Nat) ({ cls := "SourceDeskModel", name := "has", desc := "(I)Z" } : Jvm.MethodName)) ∈ lw_t := lw_m (lw_in_4 (List.mem_of_getElem? (i := 7) (by decide +kernel))) rfl
theorem mt_4_8 : (Jvm.Cond.static ({ cls := "SourceDeskModel", name := "has", desc := "(I)Z" } : Jvm.MethodName)) ∈ lw_t := lw_m (lw_in_4 (List.mem_of_getElem? (i := 8) (by decide +kernel))) rfl
theorem mt_4_9 : (Jvm.Cond.code ({ cls := "SourceDeskModel", name := "has", desc := "(I)Z" } : Jvm.MethodName) prog_10_method_4_code (1 : Nat) (Option.some Jvm.ClassFile.FieldType.boolean)) ∈ lw_t := lw_m (lw_in_4 (List.mem_of_getElem? (i := 9) (by decide +kernel))) rfl
theorem mt_4_19 : (Jvm.Cond.methodLink "SourceDeskModel" (81 : Nat) ({ cls := "SourceDeskModel", name := "height", desc := "(I)I" } : Jvm.MethodName)) ∈ lw_t := lw_m (lw_in_4 (List.mem_of_getElem? (i := 19) (by decide +kernel))) rfl
theorem mt_4_21 : (Jvm.Cond.instanceMethod ({ cls := "SourceDeskModel", name := "height", desc := "(I)I" } : Jvm.MethodName)) ∈ lw_t := lw_m (lw_in_4 (List.mem_of_getElem? (i := 21) (by decide +kernel))) rfl
theorem mt_4_22 : (Jvm.Cond.code ({ cls := "SourceDeskModel", name := "height", desc := "(I)I" } : Jvm.MethodName) prog_10_method_9_code (4 : Nat) (Option.some Jvm.ClassFile.FieldType.int)) ∈ lw_t := lw_m (lw_in_4 (List.mem_of_getElem? (i := 22) (by decide +kernel))) rfl
theorem mt_4_23 : (Jvm.Cond.methodLink "SourceDeskModel" (77 : Nat) ({ cls := "SourceDeskModel", name := "grows", desc := "(I)I" } : Jvm.MethodName)) ∈ lw_t := lw_m (lw_in_4 (List.mem_of_getElem? (i := 23) (by decide +kernel))) rfl
theorem mt_4_24 : (Jvm.Cond.static ({ cls := "SourceDeskModel", name := "grows", desc := "(I)I" } : Jvm.MethodName)) ∈ lw_t := lw_m (lw_in_4 (List.mem_of_getElem? (i := 24) (by decide +kernel))) rfl
theorem mt_4_25 : (Jvm.Cond.code ({ cls := "SourceDeskModel", name := "grows", desc := "(I)I" } : Jvm.MethodName) prog_10_method_8_code (1 : Nat) (Option.some Jvm.ClassFile.FieldType.int)) ∈ lw_t := lw_m (lw_in_4 (List.mem_of_getElem? (i := 25) (by decide +kernel))) rfl
theorem mt_4_27 : (Jvm.Cond.instanceMethod ({ cls := "SourceDeskModel", name := "verify", desc := "()I" } : Jvm.MethodName)) ∈ lw_t := lw_m (lw_in_4 (List.mem_of_getElem? (i := 27) (by decide +kernel))) rfl
theorem mt_4_28 : (Jvm.Cond.selects "SourceDeskModel" ({ cls := "SourceDeskModel", name := "verify", desc := "()I" } : Jvm.MethodName) ({ cls := "SourceDeskModel", name := "verify", desc := "()I" } : Jvm.MethodName)) ∈ lw_t := lw_m (lw_in_4 (List.mem_of_getElem? (i := 28) (by decide +kernel))) rfl
theorem mt_4_29 : (Jvm.Cond.code ({ cls := "SourceDeskModel", name := "verify", desc := "()I" } : Jvm.MethodName) prog_10_method_12_code (2 : Nat) (Option.some Jvm.ClassFile.FieldType.int)) ∈ lw_t := lw_m (lw_in_4 (List.mem_of_getElem? (i := 29) (by decide +kernel))) rfl
theorem mt_4_30 : (Jvm.Cond.methodLink "SourceDeskModel" (84 : Nat) ({ cls := "SourceDeskModel", name := "isWrong", desc := "(I)Z" } : Jvm.MethodName)) ∈ lw_t := lw_m (lw_in_4 (List.mem_of_getElem? (i := 30) (by decide +kernel))) rfl
theorem mt_4_32 : (Jvm.Cond.instanceMethod ({ cls := "SourceDeskModel", name := "isWrong", desc := "(I)Z" } : Jvm.MethodName)) ∈ lw_t := lw_m (lw_in_4 (List.mem_of_getElem? (i := 32) (by decide +kernel))) rfl
theorem mt_4_33 : (Jvm.Cond.code ({ cls := "SourceDeskModel", name := "isWrong", desc := "(I)Z" } : Jvm.MethodName) prog_10_method_11_code (4 : Nat) (Option.some Jvm.ClassFile.FieldType.boolean)) ∈ lw_t := lw_m (lw_in_4 (List.mem_of_getElem? (i := 33) (by decide +kernel))) rfl
theorem mt_4_38 : (Jvm.Cond.methodLink "SourceDeskModel" (111 : Nat) ({ cls := "SourceDeskModel", name := "verify", desc := "()I" } : Jvm.MethodName)) ∈ lw_t := lw_m (lw_in_4 (List.mem_of_getElem? (i := 38) (by decide +kernel))) rfl
theorem mt_4_39 : (Jvm.Cond.methodLink "SourceDeskModel" (93 : Nat) ({ cls := "SourceDeskModel", name := "push", desc := "(II)V" } : Jvm.MethodName)) ∈ lw_t := lw_m (lw_in_4 (List.mem_of_getElem? (i := 39) (by decide +kernel))) rfl
theorem mt_4_41 : (Jvm.Cond.instanceMethod ({ cls := "SourceDeskModel", name := "push", desc := "(II)V" } : Jvm.MethodName)) ∈ lw_t := lw_m (lw_in_4 (List.mem_of_getElem? (i := 41) (by decide +kernel))) rfl
theorem mt_4_42 : (Jvm.Cond.code ({ cls := "SourceDeskModel", name := "push", desc := "(II)V" } : Jvm.MethodName) prog_10_method_14_code (3 : Nat) (Option.none : Option Jvm.ClassFile.FieldType)) ∈ lw_t := lw_m (lw_in_4 (List.mem_of_getElem? (i := 42) (by decide +kernel))) rfl
theorem mt_4_43 : (Jvm.Cond.methodLink "SourceDeskModel" (97 : Nat) ({ cls := "SourceDeskModel", name := "write", desc := "(I)V" } : Jvm.MethodName)) ∈ lw_t := lw_m (lw_in_4 (List.mem_of_getElem? (i := 43) (by decide +kernel))) rfl
theorem mt_4_45 : (Jvm.Cond.instanceMethod ({ cls := "SourceDeskModel", name := "write", desc := "(I)V" } : Jvm.MethodName)) ∈ lw_t := lw_m (lw_in_4 (List.mem_of_getElem? (i := 45) (by decide +kernel))) rfl
theorem mt_4_46 : (Jvm.Cond.code ({ cls := "SourceDeskModel", name := "write", desc := "(I)V" } : Jvm.MethodName) prog_10_method_13_code (2 : Nat) (Option.none : Option Jvm.ClassFile.FieldType)) ∈ lw_t := lw_m (lw_in_4 (List.mem_of_getElem? (i := 46) (by decide +kernel))) rfl
theorem mt_4_47 : (Jvm.Cond.methodLink "SourceDeskModel" (115 : Nat) ({ cls := "SourceDeskModel", name := "range", desc := "(II)Z" } : Jvm.MethodName)) ∈ lw_t := lw_m (lw_in_4 (List.mem_of_getElem? (i := 47) (by decide +kernel))) rfl
theorem mt_4_49 : (Jvm.Cond.instanceMethod ({ cls := "SourceDeskModel", name := "range", desc := "(II)Z" } : Jvm.MethodName)) ∈ lw_t := lw_m (lw_in_4 (List.mem_of_getElem? (i := 49) (by decide +kernel))) rfl
theorem mt_4_50 : (Jvm.Cond.code ({ cls := "SourceDeskModel", name := "range", desc := "(II)Z" } : Jvm.MethodName) prog_10_method_17_code (8 : Nat) (Option.some Jvm.ClassFile.FieldType.boolean)) ∈ lw_t := lw_m (lw_in_4 (List.mem_of_getElem? (i := 50) (by decide +kernel))) rfl
theorem mt_4_51 : (Jvm.Cond.methodLink "SourceDeskModel" (104 : Nat) ({ cls := "SourceDeskModel", name := "tell", desc := "(I)V" } : Jvm.MethodName)) ∈ lw_t := lw_m (lw_in_4 (List.mem_of_getElem? (i := 51) (by decide +kernel))) rfl
theorem mt_4_53 : (Jvm.Cond.instanceMethod ({ cls := "SourceDeskModel", name := "tell", desc := "(I)V" } : Jvm.MethodName)) ∈ lw_t := lw_m (lw_in_4 (List.mem_of_getElem? (i := 53) (by decide +kernel))) rfl
theorem mt_4_54 : (Jvm.Cond.code ({ cls := "SourceDeskModel", name := "tell", desc := "(I)V" } : Jvm.MethodName) prog_10_method_16_code (4 : Nat) (Option.none : Option Jvm.ClassFile.FieldType)) ∈ lw_t := lw_m (lw_in_4 (List.mem_of_getElem? (i := 54) (by decide +kernel))) rfl
theorem mt_4_55 : (Jvm.Cond.methodLink "SourceDeskModel" (101 : Nat) ({ cls := "SourceDeskModel", name := "startOf", desc := "(I)I" } : Jvm.MethodName)) ∈ lw_t := lw_m (lw_in_4 (List.mem_of_getElem? (i := 55) (by decide +kernel))) rfl
theorem mt_4_57 : (Jvm.Cond.instanceMethod ({ cls := "SourceDeskModel", name := "startOf", desc := "(I)I" } : Jvm.MethodName)) ∈ lw_t := lw_m (lw_in_4 (List.mem_of_getElem? (i := 57) (by decide +kernel))) rfl
theorem mt_4_58 : (Jvm.Cond.code ({ cls := "SourceDeskModel", name := "startOf", desc := "(I)I" } : Jvm.MethodName) prog_10_method_15_code (4 : Nat) (Option.some Jvm.ClassFile.FieldType.int)) ∈ lw_t := lw_m (lw_in_4 (List.mem_of_getElem? (i := 58) (by decide +kernel))) rfl
theorem mt_4_79 : (Jvm.Cond.methodLink "SourceDeskModel" (154 : Nat) ({ cls := "SourceDeskModel", name := "goOn", desc := "(II)Z" } : Jvm.MethodName)) ∈ lw_t := lw_m (lw_in_4 (List.mem_of_getElem? (i := 79) (by decide +kernel))) rfl
theorem mt_4_81 : (Jvm.Cond.instanceMethod ({ cls := "SourceDeskModel", name := "goOn", desc := "(II)Z" } : Jvm.MethodName)) ∈ lw_t := lw_m (lw_in_4 (List.mem_of_getElem? (i := 81) (by decide +kernel))) rfl
theorem mt_4_82 : (Jvm.Cond.code ({ cls := "SourceDeskModel", name := "goOn", desc := "(II)Z" } : Jvm.MethodName) prog_10_method_30_code (3 : Nat) (Option.some Jvm.ClassFile.FieldType.boolean)) ∈ lw_t := lw_m (lw_in_4 (List.mem_of_getElem? (i := 82) (by decide +kernel))) rfl
theorem mt_4_83 : (Jvm.Cond.methodLink "SourceDeskModel" (136 : Nat) ({ cls := "SourceDeskModel", name := "list", desc := "(I)Z" } : Jvm.MethodName)) ∈ lw_t := lw_m (lw_in_4 (List.mem_of_getElem? (i := 83) (by decide +kernel))) rfl
theorem mt_4_85 : (Jvm.Cond.instanceMethod ({ cls := "SourceDeskModel", name := "list", desc := "(I)Z" } : Jvm.MethodName)) ∈ lw_t := lw_m (lw_in_4 (List.mem_of_getElem? (i := 85) (by decide +kernel))) rfl
theorem mt_4_86 : (Jvm.Cond.code ({ cls := "SourceDeskModel", name := "list", desc := "(I)Z" } : Jvm.MethodName) prog_10_method_27_code (3 : Nat) (Option.some Jvm.ClassFile.FieldType.boolean)) ∈ lw_t := lw_m (lw_in_4 (List.mem_of_getElem? (i := 86) (by decide +kernel))) rfl
theorem mt_4_87 : (Jvm.Cond.methodLink "SourceDeskModel" (124 : Nat) ({ cls := "SourceDeskModel", name := "next", desc := "()I" } : Jvm.MethodName)) ∈ lw_t := lw_m (lw_in_4 (List.mem_of_getElem? (i := 87) (by decide +kernel))) rfl
theorem mt_4_89 : (Jvm.Cond.instanceMethod ({ cls := "SourceDeskModel", name := "next", desc := "()I" } : Jvm.MethodName)) ∈ lw_t := lw_m (lw_in_4 (List.mem_of_getElem? (i := 89) (by decide +kernel))) rfl
theorem mt_4_90 : (Jvm.Cond.code ({ cls := "SourceDeskModel", name := "next", desc := "()I" } : Jvm.MethodName) prog_10_method_24_code (1 : Nat) (Option.some Jvm.ClassFile.FieldType.int)) ∈ lw_t := lw_m (lw_in_4 (List.mem_of_getElem? (i := 90) (by decide +kernel))) rfl
theorem mt_4_91 : (Jvm.Cond.methodLink "SourceDeskModel" (127 : Nat) ({ cls := "SourceDeskModel", name := "isLetter", desc := "(I)Z" } : Jvm.MethodName)) ∈ lw_t := lw_m (lw_in_4 (List.mem_of_getElem? (i := 91) (by decide +kernel))) rfl
theorem mt_4_92 : (Jvm.Cond.static ({ cls := "SourceDeskModel", name := "isLetter", desc := "(I)Z" } : Jvm.MethodName)) ∈ lw_t := lw_m (lw_in_4 (List.mem_of_getElem? (i := 92) (by decide +kernel))) rfl
theorem mt_4_93 : (Jvm.Cond.code ({ cls := "SourceDeskModel", name := "isLetter", desc := "(I)Z" } : Jvm.MethodName) prog_10_method_26_code (1 : Nat) (Option.some Jvm.ClassFile.FieldType.boolean)) ∈ lw_t := lw_m (lw_in_4 (List.mem_of_getElem? (i := 93) (by decide +kernel))) rfl
theorem mt_4_94 : (Jvm.Cond.methodLink "SourceDeskModel" (139 : Nat) ({ cls := "SourceDeskModel", name := "expression", desc := "(I)Z" } : Jvm.MethodName)) ∈ lw_t := lw_m (lw_in_4 (List.mem_of_getElem? (i := 94) (by decide +kernel))) rfl
theorem mt_4_96 : (Jvm.Cond.instanceMethod ({ cls := "SourceDeskModel", name := "expression", desc := "(I)Z" } : Jvm.MethodName)) ∈ lw_t := lw_m (lw_in_4 (List.mem_of_getElem? (i := 96) (by decide +kernel))) rfl
theorem mt_4_97 : (Jvm.Cond.code ({ cls := "SourceDeskModel", name := "expression", desc := "(I)Z" } : Jvm.MethodName) prog_10_method_28_code (4 : Nat) (Option.some Jvm.ClassFile.FieldType.boolean)) ∈ lw_t := lw_m (lw_in_4 (List.mem_of_getElem? (i := 97) (by decide +kernel))) rfl
theorem mt_4_98 : (Jvm.Cond.methodLink "SourceDeskModel" (130 : Nat) ({ cls := "SourceDeskModel", name := "isDigit", desc := "(I)Z" } : Jvm.MethodName)) ∈ lw_t := lw_m (lw_in_4 (List.mem_of_getElem? (i := 98) (by decide +kernel))) rfl
theorem mt_4_99 : (Jvm.Cond.static ({ cls := "SourceDeskModel", name := "isDigit", desc := "(I)Z" } : Jvm.MethodName)) ∈ lw_t := lw_m (lw_in_4 (List.mem_of_getElem? (i := 99) (by decide +kernel))) rfl
theorem mt_4_100 : (Jvm.Cond.code ({ cls := "SourceDeskModel", name := "isDigit", desc := "(I)Z" } : Jvm.MethodName) prog_10_method_25_code (1 : Nat) (Option.some Jvm.ClassFile.FieldType.boolean)) ∈ lw_t := lw_m (lw_in_4 (List.mem_of_getElem? (i := 100) (by decide +kernel))) rfl
theorem mt_4_101 : (Jvm.Cond.methodLink "SourceDeskModel" (133 : Nat) ({ cls := "SourceDeskModel", name := "emit", desc := "(II)V" } : Jvm.MethodName)) ∈ lw_t := lw_m (lw_in_4 (List.mem_of_getElem? (i := 101) (by decide +kernel))) rfl
theorem mt_4_103 : (Jvm.Cond.instanceMethod ({ cls := "SourceDeskModel", name := "emit", desc := "(II)V" } : Jvm.MethodName)) ∈ lw_t := lw_m (lw_in_4 (List.mem_of_getElem? (i := 103) (by decide +kernel))) rfl
theorem mt_4_104 : (Jvm.Cond.code ({ cls := "SourceDeskModel", name := "emit", desc := "(II)V" } : Jvm.MethodName) prog_10_method_23_code (3 : Nat) (Option.none : Option Jvm.ClassFile.FieldType)) ∈ lw_t := lw_m (lw_in_4 (List.mem_of_getElem? (i := 104) (by decide +kernel))) rfl
theorem mt_4_105 : (Jvm.Cond.methodLink "SourceDeskModel" (142 : Nat) ({ cls := "SourceDeskModel", name := "operator", desc := "(I)Z" } : Jvm.MethodName)) ∈ lw_t := lw_m (lw_in_4 (List.mem_of_getElem? (i := 105) (by decide +kernel))) rfl
theorem mt_4_107 : (Jvm.Cond.instanceMethod ({ cls := "SourceDeskModel", name := "operator", desc := "(I)Z" } : Jvm.MethodName)) ∈ lw_t := lw_m (lw_in_4 (List.mem_of_getElem? (i := 107) (by decide +kernel))) rfl
theorem mt_4_108 : (Jvm.Cond.code ({ cls := "SourceDeskModel", name := "operator", desc := "(I)Z" } : Jvm.MethodName) prog_10_method_29_code (4 : Nat) (Option.some Jvm.ClassFile.FieldType.boolean)) ∈ lw_t := lw_m (lw_in_4 (List.mem_of_getElem? (i := 108) (by decide +kernel))) rfl
theorem mt_4_109 : (Jvm.Cond.methodLink "SourceDeskModel" (148 : Nat) ({ cls := "SourceDeskModel", name := "fill", desc := "()V" } : Jvm.MethodName)) ∈ lw_t := lw_m (lw_in_4 (List.mem_of_getElem? (i := 109) (by decide +kernel))) rfl
theorem mt_4_111 : (Jvm.Cond.instanceMethod ({ cls := "SourceDeskModel", name := "fill", desc := "()V" } : Jvm.MethodName)) ∈ lw_t := lw_m (lw_in_4 (List.mem_of_getElem? (i := 111) (by decide +kernel))) rfl
theorem mt_4_112 : (Jvm.Cond.code ({ cls := "SourceDeskModel", name := "fill", desc := "()V" } : Jvm.MethodName) prog_10_method_32_code (1 : Nat) (Option.none : Option Jvm.ClassFile.FieldType)) ∈ lw_t := lw_m (lw_in_4 (List.mem_of_getElem? (i := 112) (by decide +kernel))) rfl
theorem mt_4_113 : (Jvm.Cond.methodLink "SourceDeskModel" (151 : Nat) ({ cls := "SourceDeskModel", name := "choice", desc := "(I)V" } : Jvm.MethodName)) ∈ lw_t := lw_m (lw_in_4 (List.mem_of_getElem? (i := 113) (by decide +kernel))) rfl
theorem mt_4_115 : (Jvm.Cond.instanceMethod ({ cls := "SourceDeskModel", name := "choice", desc := "(I)V" } : Jvm.MethodName)) ∈ lw_t := lw_m (lw_in_4 (List.mem_of_getElem? (i := 115) (by decide +kernel))) rfl
theorem mt_4_116 : (Jvm.Cond.code ({ cls := "SourceDeskModel", name := "choice", desc := "(I)V" } : Jvm.MethodName) prog_10_method_31_code (2 : Nat) (Option.none : Option Jvm.ClassFile.FieldType)) ∈ lw_t := lw_m (lw_in_4 (List.mem_of_getElem? (i := 116) (by decide +kernel))) rfl
theorem mt_4_121 : (Jvm.Cond.methodLink "SourceDeskModel" (166 : Nat) ({ cls := "SourceDeskModel", name := "start", desc := "(I)V" } : Jvm.MethodName)) ∈ lw_t := lw_m (lw_in_4 (List.mem_of_getElem? (i := 121) (by decide +kernel))) rfl
theorem mt_4_123 : (Jvm.Cond.instanceMethod ({ cls := "SourceDeskModel", name := "start", desc := "(I)V" } : Jvm.MethodName)) ∈ lw_t := lw_m (lw_in_4 (List.mem_of_getElem? (i := 123) (by decide +kernel))) rfl
theorem mt_4_124 : (Jvm.Cond.code ({ cls := "SourceDeskModel", name := "start", desc := "(I)V" } : Jvm.MethodName) prog_10_method_34_code (3 : Nat) (Option.none : Option Jvm.ClassFile.FieldType)) ∈ lw_t := lw_m (lw_in_4 (List.mem_of_getElem? (i := 124) (by decide +kernel))) rfl
theorem mt_4_125 : (Jvm.Cond.methodLink "SourceDeskModel" (169 : Nat) ({ cls := "SourceDeskModel", name := "come", desc := "(I)V" } : Jvm.MethodName)) ∈ lw_t := lw_m (lw_in_4 (List.mem_of_getElem? (i := 125) (by decide +kernel))) rfl
theorem mt_4_127 : (Jvm.Cond.instanceMethod ({ cls := "SourceDeskModel", name := "come", desc := "(I)V" } : Jvm.MethodName)) ∈ lw_t := lw_m (lw_in_4 (List.mem_of_getElem? (i := 127) (by decide +kernel))) rfl
theorem mt_4_128 : (Jvm.Cond.code ({ cls := "SourceDeskModel", name := "come", desc := "(I)V" } : Jvm.MethodName) prog_10_method_35_code (2 : Nat) (Option.none : Option Jvm.ClassFile.FieldType)) ∈ lw_t := lw_m (lw_in_4 (List.mem_of_getElem? (i := 128) (by decide +kernel))) rfl
theorem mt_4_129 : (Jvm.Cond.methodLink "SourceDeskModel" (172 : Nat) ({ cls := "SourceDeskModel", name := "take", desc := "()I" } : Jvm.MethodName)) ∈ lw_t := lw_m (lw_in_4 (List.mem_of_getElem? (i := 129) (by decide +kernel))) rfl
theorem mt_4_131 : (Jvm.Cond.instanceMethod ({ cls := "SourceDeskModel", name := "take", desc := "()I" } : Jvm.MethodName)) ∈ lw_t := lw_m (lw_in_4 (List.mem_of_getElem? (i := 131) (by decide +kernel))) rfl
theorem mt_4_132 : (Jvm.Cond.code ({ cls := "SourceDeskModel", name := "take", desc := "()I" } : Jvm.MethodName) prog_10_method_36_code (1 : Nat) (Option.some Jvm.ClassFile.FieldType.int)) ∈ lw_t := lw_m (lw_in_4 (List.mem_of_getElem? (i := 132) (by decide +kernel))) rfl
theorem mt_4_133 : (Jvm.Cond.methodLink "SourceDeskModel" (175 : Nat) ({ cls := "SourceDeskModel", name := "print", desc := "(I)V" } : Jvm.MethodName)) ∈ lw_t := lw_m (lw_in_4 (List.mem_of_getElem? (i := 133) (by decide +kernel))) rfl
theorem mt_4_135 : (Jvm.Cond.instanceMethod ({ cls := "SourceDeskModel", name := "print", desc := "(I)V" } : Jvm.MethodName)) ∈ lw_t := lw_m (lw_in_4 (List.mem_of_getElem? (i := 135) (by decide +kernel))) rfl
theorem mt_4_136 : (Jvm.Cond.code ({ cls := "SourceDeskModel", name := "print", desc := "(I)V" } : Jvm.MethodName) prog_10_method_37_code (2 : Nat) (Option.none : Option Jvm.ClassFile.FieldType)) ∈ lw_t := lw_m (lw_in_4 (List.mem_of_getElem? (i := 136) (by decide +kernel))) rfl
theorem mt_4_137 : (Jvm.Cond.methodLink "SourceDeskModel" (178 : Nat) ({ cls := "SourceDeskModel", name := "both", desc := "(III)I" } : Jvm.MethodName)) ∈ lw_t := lw_m (lw_in_4 (List.mem_of_getElem? (i := 137) (by decide +kernel))) rfl
theorem mt_4_138 : (Jvm.Cond.static ({ cls := "SourceDeskModel", name := "both", desc := "(III)I" } : Jvm.MethodName)) ∈ lw_t := lw_m (lw_in_4 (List.mem_of_getElem? (i := 138) (by decide +kernel))) rfl
theorem mt_4_139 : (Jvm.Cond.code ({ cls := "SourceDeskModel", name := "both", desc := "(III)I" } : Jvm.MethodName) prog_10_method_38_code (3 : Nat) (Option.some Jvm.ClassFile.FieldType.int)) ∈ lw_t := lw_m (lw_in_4 (List.mem_of_getElem? (i := 139) (by decide +kernel))) rfl
theorem mt_4_144 : (Jvm.Cond.methodLink "SourceDeskModel" (188 : Nat) ({ cls := "SourceDeskModel", name := "behind", desc := "(I)I" } : Jvm.MethodName)) ∈ lw_t := lw_m (lw_in_4 (List.mem_of_getElem? (i := 144) (by decide +kernel))) rfl
theorem mt_4_146 : (Jvm.Cond.instanceMethod ({ cls := "SourceDeskModel", name := "behind", desc := "(I)I" } : Jvm.MethodName)) ∈ lw_t := lw_m (lw_in_4 (List.mem_of_getElem? (i := 146) (by decide +kernel))) rfl
theorem mt_4_147 : (Jvm.Cond.code ({ cls := "SourceDeskModel", name := "behind", desc := "(I)I" } : Jvm.MethodName) prog_10_method_41_code (4 : Nat) (Option.some Jvm.ClassFile.FieldType.int)) ∈ lw_t := lw_m (lw_in_4 (List.mem_of_getElem? (i := 147) (by decide +kernel))) rfl
theorem mt_4_148 : (Jvm.Cond.methodLink "SourceDeskModel" (191 : Nat) ({ cls := "SourceDeskModel", name := "work", desc := "(I)I" } : Jvm.MethodName)) ∈ lw_t := lw_m (lw_in_4 (List.mem_of_getElem? (i := 148) (by decide +kernel))) rfl
theorem mt_4_150 : (Jvm.Cond.instanceMethod ({ cls := "SourceDeskModel", name := "work", desc := "(I)I" } : Jvm.MethodName)) ∈ lw_t := lw_m (lw_in_4 (List.mem_of_getElem? (i := 150) (by decide +kernel))) rfl
theorem mt_4_151 : (Jvm.Cond.code ({ cls := "SourceDeskModel", name := "work", desc := "(I)I" } : Jvm.MethodName) prog_10_method_40_code (7 : Nat) (Option.some Jvm.ClassFile.FieldType.int)) ∈ lw_t := lw_m (lw_in_4 (List.mem_of_getElem? (i := 151) (by decide +kernel))) rfl
theorem mt_4_160 : (Jvm.Cond.methodLink "SourceDeskModel" (194 : Nat) ({ cls := "SourceDeskModel", name := "tally", desc := "(I)I" } : Jvm.MethodName)) ∈ lw_t := lw_m (lw_in_4 (List.mem_of_getElem? (i := 160) (by decide +kernel))) rfl
theorem mt_4_162 : (Jvm.Cond.instanceMethod ({ cls := "SourceDeskModel", name := "tally", desc := "(I)I" } : Jvm.MethodName)) ∈ lw_t := lw_m (lw_in_4 (List.mem_of_getElem? (i := 162) (by decide +kernel))) rfl
theorem mt_4_163 : (Jvm.Cond.code ({ cls := "SourceDeskModel", name := "tally", desc := "(I)I" } : Jvm.MethodName) prog_10_method_44_code (11 : Nat) (Option.some Jvm.ClassFile.FieldType.int)) ∈ lw_t := lw_m (lw_in_4 (List.mem_of_getElem? (i := 163) (by decide +kernel))) rfl
theorem mp_0 : Cond.selects "SourceDesk$Listing" (⟨"SourceDesk$Listing", "isWrong", "(I)Z"⟩ : MethodName) ⟨"SourceDesk$Listing", "isWrong", "(I)Z"⟩ ∈ lw_t := lw_m (List.mem_append_left _ (List.mem_of_getElem? (i := 0) (by decide +kernel))) rfl
theorem mp_1 : Cond.selects "SourceDesk$Listing" (⟨"SourceDesk$Listing", "isLanding", "(I)Z"⟩ : MethodName) ⟨"SourceDesk$Listing", "isLanding", "(I)Z"⟩ ∈ lw_t := lw_m (List.mem_append_left _ (List.mem_of_getElem? (i := 1) (by decide +kernel))) rfl
theorem mp_2 : Cond.selects "SourceDesk$Tree" (⟨"SourceDesk$Tree", "grow", "(III)I"⟩ : MethodName) ⟨"SourceDesk$Tree", "grow", "(III)I"⟩ ∈ lw_t := lw_m (List.mem_append_left _ (List.mem_of_getElem? (i := 2) (by decide +kernel))) rfl
theorem mp_3 : Cond.selects "SourceDesk$Tree" (⟨"SourceDesk$Tree", "growStatement", "(III)I"⟩ : MethodName) ⟨"SourceDesk$Tree", "growStatement", "(III)I"⟩ ∈ lw_t := lw_m (List.mem_append_left _ (List.mem_of_getElem? (i := 3) (by decide +kernel))) rfl
theorem mp_4 : Cond.selects "SourceDesk$Tree" (⟨"SourceDesk$Tree", "endOfExpression", "(I)I"⟩ : MethodName) ⟨"SourceDesk$Tree", "endOfExpression", "(I)I"⟩ ∈ lw_t := lw_m (List.mem_append_left _ (List.mem_of_getElem? (i := 4) (by decide +kernel))) rfl
theorem mp_5 : Cond.selects "SourceDesk$Tree" (⟨"SourceDesk$Tree", "beginOf", "(I)I"⟩ : MethodName) ⟨"SourceDesk$Tree", "beginOf", "(I)I"⟩ ∈ lw_t := lw_m (List.mem_append_left _ (List.mem_of_getElem? (i := 5) (by decide +kernel))) rfl
theorem mp_6 : Cond.selects "SourceDesk$Tree" (⟨"SourceDesk$Tree", "growBranch", "(IIII)I"⟩ : MethodName) ⟨"SourceDesk$Tree", "growBranch", "(IIII)I"⟩ ∈ lw_t := lw_m (List.mem_append_left _ (List.mem_of_getElem? (i := 6) (by decide +kernel))) rfl
theorem mp_7 : Cond.selects "SourceDesk$Tree" (⟨"SourceDesk$Tree", "tie", "(I)I"⟩ : MethodName) ⟨"SourceDesk$Tree", "tie", "(I)I"⟩ ∈ lw_t := lw_m (List.mem_append_left _ (List.mem_of_getElem? (i := 7) (by decide +kernel))) rfl
theorem mp_8 : Cond.selects "SourceDesk$Tree" (⟨"SourceDesk$Tree", "add", "(IIIII)I"⟩ : MethodName) ⟨"SourceDesk$Tree", "add", "(IIIII)I"⟩ ∈ lw_t := lw_m (List.mem_append_left _ (List.mem_of_getElem? (i := 8) (by decide +kernel))) rfl
theorem mp_9 : Cond.selects "SourceDesk$Draft" (⟨"SourceDesk$Draft", "takeStatements", "(I)Z"⟩ : MethodName) ⟨"SourceDesk$Draft", "takeStatements", "(I)Z"⟩ ∈ lw_t := lw_m (List.mem_append_left _ (List.mem_of_getElem? (i := 9) (by decide +kernel))) rfl
theorem mp_10 : Cond.selects "SourceDesk$Draft" (⟨"SourceDesk$Draft", "takeStatement", "(I)Z"⟩ : MethodName) ⟨"SourceDesk$Draft", "takeStatement", "(I)Z"⟩ ∈ lw_t := lw_m (List.mem_append_left _ (List.mem_of_getElem? (i := 10) (by decide +kernel))) rfl
theorem mp_11 : Cond.selects "SourceDesk$Draft" (⟨"SourceDesk$Draft", "takeStore", "(I)Z"⟩ : MethodName) ⟨"SourceDesk$Draft", "takeStore", "(I)Z"⟩ ∈ lw_t := lw_m (List.mem_append_left _ (List.mem_of_getElem? (i := 11) (by decide +kernel))) rfl
theorem mp_12 : Cond.selects "SourceDesk$Draft" (⟨"SourceDesk$Draft", "take", "(C)Z"⟩ : MethodName) ⟨"SourceDesk$Draft", "take", "(C)Z"⟩ ∈ lw_t := lw_m (List.mem_append_left _ (List.mem_of_getElem? (i := 12) (by decide +kernel))) rfl
theorem mp_13 : Cond.selects "SourceDesk$Draft" (⟨"SourceDesk$Draft", "takeExpression", "(I)Z"⟩ : MethodName) ⟨"SourceDesk$Draft", "takeExpression", "(I)Z"⟩ ∈ lw_t := lw_m (List.mem_append_left _ (List.mem_of_getElem? (i := 13) (by decide +kernel))) rfl
theorem mp_14 : Cond.selects "SourceDesk$Draft" (⟨"SourceDesk$Draft", "takeNumber", "()V"⟩ : MethodName) ⟨"SourceDesk$Draft", "takeNumber", "()V"⟩ ∈ lw_t := lw_m (List.mem_append_left _ (List.mem_of_getElem? (i := 14) (by decide +kernel))) rfl
theorem mp_15 : Cond.selects "SourceDesk$Draft" (⟨"SourceDesk$Draft", "takeNot", "(I)Z"⟩ : MethodName) ⟨"SourceDesk$Draft", "takeNot", "(I)Z"⟩ ∈ lw_t := lw_m (List.mem_append_left _ (List.mem_of_getElem? (i := 15) (by decide +kernel))) rfl
theorem mp_16 : Cond.selects "SourceDesk$Draft" (⟨"SourceDesk$Draft", "takePair", "(I)Z"⟩ : MethodName) ⟨"SourceDesk$Draft", "takePair", "(I)Z"⟩ ∈ lw_t := lw_m (List.mem_append_left _ (List.mem_of_getElem? (i := 16) (by decide +kernel))) rfl
theorem mp_17 : Cond.selects "SourceDesk$Draft" (⟨"SourceDesk$Draft", "takePrint", "()Z"⟩ : MethodName) ⟨"SourceDesk$Draft", "takePrint", "()Z"⟩ ∈ lw_t := lw_m (List.mem_append_left _ (List.mem_of_getElem? (i := 17) (by decide +kernel))) rfl
theorem mp_18 : Cond.selects "SourceDesk$Draft" (⟨"SourceDesk$Draft", "takeWhile", "(I)Z"⟩ : MethodName) ⟨"SourceDesk$Draft", "takeWhile", "(I)Z"⟩ ∈ lw_t := lw_m (List.mem_append_left _ (List.mem_of_getElem? (i := 18) (by decide +kernel))) rfl
theorem mp_19 : Cond.selects "SourceDesk$Draft" (⟨"SourceDesk$Draft", "takeGuarded", "(I)I"⟩ : MethodName) ⟨"SourceDesk$Draft", "takeGuarded", "(I)I"⟩ ∈ lw_t := lw_m (List.mem_append_left _ (List.mem_of_getElem? (i := 19) (by decide +kernel))) rfl
theorem mp_20 : Cond.selects "SourceDesk$Draft" (⟨"SourceDesk$Draft", "takeBlock", "(I)Z"⟩ : MethodName) ⟨"SourceDesk$Draft", "takeBlock", "(I)Z"⟩ ∈ lw_t := lw_m (List.mem_append_left _ (List.mem_of_getElem? (i := 20) (by decide +kernel))) rfl
theorem mp_21 : Cond.selects "SourceDesk$Draft" (⟨"SourceDesk$Draft", "takeIf", "(I)Z"⟩ : MethodName) ⟨"SourceDesk$Draft", "takeIf", "(I)Z"⟩ ∈ lw_t := lw_m (List.mem_append_left _ (List.mem_of_getElem? (i := 21) (by decide +kernel))) rfl
theorem mp_22 : Cond.selects "SourceDesk$Machine" (⟨"SourceDesk$Machine", "step", "(III)I"⟩ : MethodName) ⟨"SourceDesk$Machine", "step", "(III)I"⟩ ∈ lw_t := lw_m (List.mem_append_left _ (List.mem_of_getElem? (i := 22) (by decide +kernel))) rfl
theorem mp_23 : Cond.selects "SourceDesk$Machine" (⟨"SourceDesk$Machine", "push", "(I)V"⟩ : MethodName) ⟨"SourceDesk$Machine", "push", "(I)V"⟩ ∈ lw_t := lw_m (List.mem_append_left _ (List.mem_of_getElem? (i := 23) (by decide +kernel))) rfl
theorem mp_24 : Cond.selects "SourceDesk$Machine" (⟨"SourceDesk$Machine", "keepVariable", "(II)V"⟩ : MethodName) ⟨"SourceDesk$Machine", "keepVariable", "(II)V"⟩ ∈ lw_t := lw_m (List.mem_append_left _ (List.mem_of_getElem? (i := 24) (by decide +kernel))) rfl
theorem mp_25 : Cond.selects "SourceDesk$Machine" (⟨"SourceDesk$Machine", "print", "(I)V"⟩ : MethodName) ⟨"SourceDesk$Machine", "print", "(I)V"⟩ ∈ lw_t := lw_m (List.mem_append_left _ (List.mem_of_getElem? (i := 25) (by decide +kernel))) rfl
theorem mp_26 : Cond.selects "SourceDeskModel" (⟨"SourceDeskModel", "height", "(I)I"⟩ : MethodName) ⟨"SourceDeskModel", "height", "(I)I"⟩ ∈ lw_t := lw_m (List.mem_append_left _ (List.mem_of_getElem? (i := 26) (by decide +kernel))) rfl
theorem mp_27 : Cond.selects "SourceDeskModel" (⟨"SourceDeskModel", "isWrong", "(I)Z"⟩ : MethodName) ⟨"SourceDeskModel", "isWrong", "(I)Z"⟩ ∈ lw_t := lw_m (List.mem_append_left _ (List.mem_of_getElem? (i := 27) (by decide +kernel))) rfl
theorem mp_28 : Cond.selects "SourceDeskModel" (⟨"SourceDeskModel", "push", "(II)V"⟩ : MethodName) ⟨"SourceDeskModel", "push", "(II)V"⟩ ∈ lw_t := lw_m (List.mem_append_left _ (List.mem_of_getElem? (i := 28) (by decide +kernel))) rfl
theorem mp_29 : Cond.selects "SourceDeskModel" (⟨"SourceDeskModel", "write", "(I)V"⟩ : MethodName) ⟨"SourceDeskModel", "write", "(I)V"⟩ ∈ lw_t := lw_m (List.mem_append_left _ (List.mem_of_getElem? (i := 29) (by decide +kernel))) rfl
theorem mp_30 : Cond.selects "SourceDeskModel" (⟨"SourceDeskModel", "range", "(II)Z"⟩ : MethodName) ⟨"SourceDeskModel", "range", "(II)Z"⟩ ∈ lw_t := lw_m (List.mem_append_left _ (List.mem_of_getElem? (i := 30) (by decide +kernel))) rfl
theorem mp_31 : Cond.selects "SourceDeskModel" (⟨"SourceDeskModel", "tell", "(I)V"⟩ : MethodName) ⟨"SourceDeskModel", "tell", "(I)V"⟩ ∈ lw_t := lw_m (List.mem_append_left _ (List.mem_of_getElem? (i := 31) (by decide +kernel))) rfl
theorem mp_32 : Cond.selects "SourceDeskModel" (⟨"SourceDeskModel", "startOf", "(I)I"⟩ : MethodName) ⟨"SourceDeskModel", "startOf", "(I)I"⟩ ∈ lw_t := lw_m (List.mem_append_left _ (List.mem_of_getElem? (i := 32) (by decide +kernel))) rfl
theorem mp_33 : Cond.selects "SourceDeskModel" (⟨"SourceDeskModel", "goOn", "(II)Z"⟩ : MethodName) ⟨"SourceDeskModel", "goOn", "(II)Z"⟩ ∈ lw_t := lw_m (List.mem_append_left _ (List.mem_of_getElem? (i := 33) (by decide +kernel))) rfl
theorem mp_34 : Cond.selects "SourceDeskModel" (⟨"SourceDeskModel", "list", "(I)Z"⟩ : MethodName) ⟨"SourceDeskModel", "list", "(I)Z"⟩ ∈ lw_t := lw_m (List.mem_append_left _ (List.mem_of_getElem? (i := 34) (by decide +kernel))) rfl
theorem mp_35 : Cond.selects "SourceDeskModel" (⟨"SourceDeskModel", "next", "()I"⟩ : MethodName) ⟨"SourceDeskModel", "next", "()I"⟩ ∈ lw_t := lw_m (List.mem_append_left _ (List.mem_of_getElem? (i := 35) (by decide +kernel))) rfl
theorem mp_36 : Cond.selects "SourceDeskModel" (⟨"SourceDeskModel", "expression", "(I)Z"⟩ : MethodName) ⟨"SourceDeskModel", "expression", "(I)Z"⟩ ∈ lw_t := lw_m (List.mem_append_left _ (List.mem_of_getElem? (i := 36) (by decide +kernel))) rfl
theorem mp_37 : Cond.selects "SourceDeskModel" (⟨"SourceDeskModel", "emit", "(II)V"⟩ : MethodName) ⟨"SourceDeskModel", "emit", "(II)V"⟩ ∈ lw_t := lw_m (List.mem_append_left _ (List.mem_of_getElem? (i := 37) (by decide +kernel))) rfl
theorem mp_38 : Cond.selects "SourceDeskModel" (⟨"SourceDeskModel", "operator", "(I)Z"⟩ : MethodName) ⟨"SourceDeskModel", "operator", "(I)Z"⟩ ∈ lw_t := lw_m (List.mem_append_left _ (List.mem_of_getElem? (i := 38) (by decide +kernel))) rfl
theorem mp_39 : Cond.selects "SourceDeskModel" (⟨"SourceDeskModel", "fill", "()V"⟩ : MethodName) ⟨"SourceDeskModel", "fill", "()V"⟩ ∈ lw_t := lw_m (List.mem_append_left _ (List.mem_of_getElem? (i := 39) (by decide +kernel))) rfl
theorem mp_40 : Cond.selects "SourceDeskModel" (⟨"SourceDeskModel", "choice", "(I)V"⟩ : MethodName) ⟨"SourceDeskModel", "choice", "(I)V"⟩ ∈ lw_t := lw_m (List.mem_append_left _ (List.mem_of_getElem? (i := 40) (by decide +kernel))) rfl
theorem mp_41 : Cond.selects "SourceDeskModel" (⟨"SourceDeskModel", "start", "(I)V"⟩ : MethodName) ⟨"SourceDeskModel", "start", "(I)V"⟩ ∈ lw_t := lw_m (List.mem_append_left _ (List.mem_of_getElem? (i := 41) (by decide +kernel))) rfl
theorem mp_42 : Cond.selects "SourceDeskModel" (⟨"SourceDeskModel", "come", "(I)V"⟩ : MethodName) ⟨"SourceDeskModel", "come", "(I)V"⟩ ∈ lw_t := lw_m (List.mem_append_left _ (List.mem_of_getElem? (i := 42) (by decide +kernel))) rfl
theorem mp_43 : Cond.selects "SourceDeskModel" (⟨"SourceDeskModel", "take", "()I"⟩ : MethodName) ⟨"SourceDeskModel", "take", "()I"⟩ ∈ lw_t := lw_m (List.mem_append_left _ (List.mem_of_getElem? (i := 43) (by decide +kernel))) rfl
theorem mp_44 : Cond.selects "SourceDeskModel" (⟨"SourceDeskModel", "print", "(I)V"⟩ : MethodName) ⟨"SourceDeskModel", "print", "(I)V"⟩ ∈ lw_t := lw_m (List.mem_append_left _ (List.mem_of_getElem? (i := 44) (by decide +kernel))) rfl
theorem mp_45 : Cond.selects "SourceDeskModel" (⟨"SourceDeskModel", "behind", "(I)I"⟩ : MethodName) ⟨"SourceDeskModel", "behind", "(I)I"⟩ ∈ lw_t := lw_m (List.mem_append_left _ (List.mem_of_getElem? (i := 45) (by decide +kernel))) rfl
theorem mp_46 : Cond.selects "SourceDeskModel" (⟨"SourceDeskModel", "work", "(I)I"⟩ : MethodName) ⟨"SourceDeskModel", "work", "(I)I"⟩ ∈ lw_t := lw_m (List.mem_append_left _ (List.mem_of_getElem? (i := 46) (by decide +kernel))) rfl
theorem mp_47 : Cond.selects "SourceDeskModel" (⟨"SourceDeskModel", "tally", "(I)I"⟩ : MethodName) ⟨"SourceDeskModel", "tally", "(I)I"⟩ ∈ lw_t := lw_m (List.mem_append_left _ (List.mem_of_getElem? (i := 47) (by decide +kernel))) rfl
