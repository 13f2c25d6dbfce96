def R_Row : String := "PictureFile$Row"
def F_Row : u_T := fun k => match k with
  | 0 => ("PictureFile$Row", "cells", "[B", false)
  | _ => ("PictureFile$Row", "size", "I", false)
def t_Row : Nat → FieldType := fun k => match k with
  | 0 => .array .byte
  | _ => .int
theorem n_Row : ∀ a, a < 2 → ∀ b, b < 2 → a ≠ b → (F_Row a).2.1 ≠ (F_Row b).2.1 := by decide +kernel
theorem t_Row_ok : ∀ k, k < 2 → parseFieldDescriptor (F_Row k).2.2.1 = some (t_Row k) := by decide +kernel
def R_St : String := "PictureFile$Strips"
def F_St : u_T := fun k => match k with
  | 0 => ("PictureFile$Strips", "most", "I", true)
  | 1 => ("PictureFile$Strips", "cells", "[I", false)
  | _ => ("PictureFile$Strips", "count", "I", false)
def t_St : Nat → FieldType := fun k => match k with
  | 0 => .int
  | 1 => .array .int
  | _ => .int
theorem n_St : ∀ a, a < 3 → ∀ b, b < 3 → a ≠ b → (F_St a).2.1 ≠ (F_St b).2.1 := by decide +kernel
theorem t_St_ok : ∀ k, k < 3 → parseFieldDescriptor (F_St k).2.2.1 = some (t_St k) := by decide +kernel
def R_Mk : String := "PictureFile$Maker"
def F_Mk : u_T := fun k => match k with
  | 0 => ("PictureFile$Maker", "file", "LPictureFile$Row;", true)
  | 1 => ("PictureFile$Maker", "strips", "LPictureFile$Strips;", true)
  | 2 => ("PictureFile$Maker", "making", "Z", false)
  | 3 => ("PictureFile$Maker", "onPage", "Z", false)
  | 4 => ("PictureFile$Maker", "order", "I", false)
  | 5 => ("PictureFile$Maker", "pages", "I", false)
  | 6 => ("PictureFile$Maker", "link", "I", false)
  | 7 => ("PictureFile$Maker", "width", "I", false)
  | 8 => ("PictureFile$Maker", "height", "I", false)
  | 9 => ("PictureFile$Maker", "rows", "I", false)
  | 10 => ("PictureFile$Maker", "across", "I", false)
  | 11 => ("PictureFile$Maker", "down", "I", false)
  | 12 => ("PictureFile$Maker", "stripsDue", "I", false)
  | _ => ("PictureFile$Maker", "stripBytes", "I", false)
def t_Mk : Nat → FieldType := fun k => match k with
  | 0 => .object "PictureFile$Row"
  | 1 => .object "PictureFile$Strips"
  | 2 => .boolean
  | 3 => .boolean
  | 4 => .int
  | 5 => .int
  | 6 => .int
  | 7 => .int
  | 8 => .int
  | 9 => .int
  | 10 => .int
  | 11 => .int
  | 12 => .int
  | _ => .int
theorem n_Mk : ∀ a, a < 14 → ∀ b, b < 14 → a ≠ b → (F_Mk a).2.1 ≠ (F_Mk b).2.1 := by decide +kernel
theorem t_Mk_ok : ∀ k, k < 14 → parseFieldDescriptor (F_Mk k).2.2.1 = some (t_Mk k) := by decide +kernel
def R_Pn : String := "PictureFile$PageNumbers"
def F_Pn : u_T := fun k => match k with
  | _ => ("PictureFile$PageNumbers", "cells", "[J", true)
def t_Pn : Nat → FieldType := fun k => match k with
  | _ => .array .long
theorem n_Pn : ∀ a, a < 1 → ∀ b, b < 1 → a ≠ b → (F_Pn a).2.1 ≠ (F_Pn b).2.1 := by decide +kernel
theorem t_Pn_ok : ∀ k, k < 1 → parseFieldDescriptor (F_Pn k).2.2.1 = some (t_Pn k) := by decide +kernel
def R_En : String := "PictureFile$Entries"
def F_En : u_T := fun k => match k with
  | 0 => ("PictureFile$Entries", "file", "LPictureFile$Row;", true)
  | 1 => ("PictureFile$Entries", "types", "[I", true)
  | 2 => ("PictureFile$Entries", "counts", "[I", true)
  | _ => ("PictureFile$Entries", "places", "[I", true)
def t_En : Nat → FieldType := fun k => match k with
  | 0 => .object "PictureFile$Row"
  | 1 => .array .int
  | 2 => .array .int
  | _ => .array .int
theorem n_En : ∀ a, a < 4 → ∀ b, b < 4 → a ≠ b → (F_En a).2.1 ≠ (F_En b).2.1 := by decide +kernel
theorem t_En_ok : ∀ k, k < 4 → parseFieldDescriptor (F_En k).2.2.1 = some (t_En k) := by decide +kernel
def R_Rd : String := "PictureFile$Reader"
def F_Rd : u_T := fun k => match k with
  | 0 => ("PictureFile$Reader", "file", "LPictureFile$Row;", true)
  | 1 => ("PictureFile$Reader", "entries", "LPictureFile$Entries;", true)
  | 2 => ("PictureFile$Reader", "numbers", "LPictureFile$PageNumbers;", true)
  | 3 => ("PictureFile$Reader", "strips", "LPictureFile$Strips;", true)
  | 4 => ("PictureFile$Reader", "firstStrips", "[I", true)
  | 5 => ("PictureFile$Reader", "pages", "I", false)
  | 6 => ("PictureFile$Reader", "order", "I", false)
  | 7 => ("PictureFile$Reader", "current", "I", false)
  | 8 => ("PictureFile$Reader", "faultKind", "I", false)
  | 9 => ("PictureFile$Reader", "faultPage", "I", false)
  | 10 => ("PictureFile$Reader", "faultTag", "I", false)
  | _ => ("PictureFile$Reader", "faultStrip", "I", false)
def t_Rd : Nat → FieldType := fun k => match k with
  | 0 => .object "PictureFile$Row"
  | 1 => .object "PictureFile$Entries"
  | 2 => .object "PictureFile$PageNumbers"
  | 3 => .object "PictureFile$Strips"
  | 4 => .array .int
  | 5 => .int
  | 6 => .int
  | 7 => .int
  | 8 => .int
  | 9 => .int
  | 10 => .int
  | _ => .int
theorem n_Rd : ∀ a, a < 12 → ∀ b, b < 12 → a ≠ b → (F_Rd a).2.1 ≠ (F_Rd b).2.1 := by decide +kernel
theorem t_Rd_ok : ∀ k, k < 12 → parseFieldDescriptor (F_Rd k).2.2.1 = some (t_Rd k) := by decide +kernel
def R_PF : String := "PictureFile"
def F_PF : u_T := fun k => match k with
  | 0 => ("PictureFile", "file", "LPictureFile$Row;", true)
  | 1 => ("PictureFile", "maker", "LPictureFile$Maker;", true)
  | _ => ("PictureFile", "reader", "LPictureFile$Reader;", true)
def t_PF : Nat → FieldType := fun k => match k with
  | 0 => .object "PictureFile$Row"
  | 1 => .object "PictureFile$Maker"
  | _ => .object "PictureFile$Reader"
theorem n_PF : ∀ a, a < 3 → ∀ b, b < 3 → a ≠ b → (F_PF a).2.1 ≠ (F_PF b).2.1 := by decide +kernel
theorem t_PF_ok : ∀ k, k < 3 → parseFieldDescriptor (F_PF k).2.2.1 = some (t_PF k) := by decide +kernel
abbrev classes : List vw_C := [(R_Row, F_Row, 2), (R_St, F_St, 3), (R_Mk, F_Mk, 14), (R_Pn, F_Pn, 1), (R_En, F_En, 4), (R_Rd, F_Rd, 12), (R_PF, F_PF, 3)]
abbrev TY (cB cI cJ : ClassId) : List (ClassId × FieldType) := [(cB, .byte), (cI, .int), (cJ, .long)]
abbrev b_PF_isWithin : ByteArray := prog_1_method_18_code
def y_PF_isWithin : MethodName := ⟨"PictureFile", "isWithin", "(JJJ)Z"⟩
abbrev b_PF_isPartLength : ByteArray := prog_1_method_19_code
def y_PF_isPartLength : MethodName := ⟨"PictureFile", "isPartLength", "(I)Z"⟩
abbrev b_PF_isOrder : ByteArray := prog_1_method_20_code
def y_PF_isOrder : MethodName := ⟨"PictureFile", "isOrder", "(I)Z"⟩
abbrev b_PF_isFineness : ByteArray := prog_1_method_21_code
def y_PF_isFineness : MethodName := ⟨"PictureFile", "isFineness", "(I)Z"⟩
abbrev b_PF_stripsOf : ByteArray := prog_1_method_23_code
def y_PF_stripsOf : MethodName := ⟨"PictureFile", "stripsOf", "(JJ)J"⟩
abbrev b_PF_isSheet : ByteArray := prog_1_method_22_code
def y_PF_isSheet : MethodName := ⟨"PictureFile", "isSheet", "(III)Z"⟩
abbrev b_Row_at : ByteArray := prog_6_method_2_code
def y_Row_at : MethodName := ⟨"PictureFile$Row", "at", "(J)I"⟩
abbrev b_Row_shiftOf : ByteArray := prog_6_method_9_code
def y_Row_shiftOf : MethodName := ⟨"PictureFile$Row", "shiftOf", "(III)I"⟩
abbrev b_Row_replace : ByteArray := prog_6_method_3_code
def y_Row_replace : MethodName := ⟨"PictureFile$Row", "replace", "(II)V"⟩
abbrev b_Row_add : ByteArray := prog_6_method_4_code
def y_Row_add : MethodName := ⟨"PictureFile$Row", "add", "(I)V"⟩
abbrev b_Row_number : ByteArray := prog_6_method_5_code
def y_Row_number : MethodName := ⟨"PictureFile$Row", "number", "(JII)J"⟩
abbrev b_Row_append : ByteArray := prog_6_method_6_code
def y_Row_append : MethodName := ⟨"PictureFile$Row", "append", "(JII)V"⟩
abbrev b_Row_replaceLong : ByteArray := prog_6_method_7_code
def y_Row_replaceLong : MethodName := ⟨"PictureFile$Row", "replaceLong", "(IJI)V"⟩
abbrev b_Row_makeEven : ByteArray := prog_6_method_8_code
def y_Row_makeEven : MethodName := ⟨"PictureFile$Row", "makeEven", "()V"⟩
abbrev b_St_get : ByteArray := prog_7_method_3_code
def y_St_get : MethodName := ⟨"PictureFile$Strips", "get", "(II)I"⟩
abbrev b_St_add : ByteArray := prog_7_method_2_code
def y_St_add : MethodName := ⟨"PictureFile$Strips", "add", "(II)V"⟩
abbrev b_Mk_addShort : ByteArray := prog_3_method_16_code
def y_Mk_addShort : MethodName := ⟨"PictureFile$Maker", "addShort", "(I)V"⟩
abbrev b_Mk_addLong : ByteArray := prog_3_method_17_code
def y_Mk_addLong : MethodName := ⟨"PictureFile$Maker", "addLong", "(I)V"⟩
abbrev b_Mk_leavePage : ByteArray := prog_3_method_4_code
def y_Mk_leavePage : MethodName := ⟨"PictureFile$Maker", "leavePage", "()V"⟩
abbrev b_Mk_startFile : ByteArray := prog_3_method_2_code
def y_Mk_startFile : MethodName := ⟨"PictureFile$Maker", "startFile", "(I)V"⟩
abbrev b_Mk_startPage : ByteArray := prog_3_method_3_code
def y_Mk_startPage : MethodName := ⟨"PictureFile$Maker", "startPage", "(IIIII)V"⟩
abbrev b_Mk_stripsToCome : ByteArray := prog_3_method_5_code
def y_Mk_stripsToCome : MethodName := ⟨"PictureFile$Maker", "stripsToCome", "()I"⟩
abbrev b_Mk_hasRoomFor : ByteArray := prog_3_method_6_code
def y_Mk_hasRoomFor : MethodName := ⟨"PictureFile$Maker", "hasRoomFor", "(I)Z"⟩
abbrev b_Mk_addToStrip : ByteArray := prog_3_method_7_code
def y_Mk_addToStrip : MethodName := ⟨"PictureFile$Maker", "addToStrip", "(JI)V"⟩
abbrev b_Mk_finishStrip : ByteArray := prog_3_method_8_code
def y_Mk_finishStrip : MethodName := ⟨"PictureFile$Maker", "finishStrip", "()V"⟩
abbrev b_Mk_hasLists : ByteArray := prog_3_method_9_code
def y_Mk_hasLists : MethodName := ⟨"PictureFile$Maker", "hasLists", "()Z"⟩
abbrev b_Mk_sizeWithPage : ByteArray := prog_3_method_10_code
def y_Mk_sizeWithPage : MethodName := ⟨"PictureFile$Maker", "sizeWithPage", "()I"⟩
abbrev b_Mk_addList : ByteArray := prog_3_method_12_code
def y_Mk_addList : MethodName := ⟨"PictureFile$Maker", "addList", "(I)V"⟩
abbrev b_Mk_addFineness : ByteArray := prog_3_method_13_code
def y_Mk_addFineness : MethodName := ⟨"PictureFile$Maker", "addFineness", "(I)V"⟩
abbrev b_Mk_addEntry : ByteArray := prog_3_method_15_code
def y_Mk_addEntry : MethodName := ⟨"PictureFile$Maker", "addEntry", "(IIII)V"⟩
abbrev b_Mk_addDirectory : ByteArray := prog_3_method_14_code
def y_Mk_addDirectory : MethodName := ⟨"PictureFile$Maker", "addDirectory", "(II)V"⟩
abbrev b_Mk_finishPage : ByteArray := prog_3_method_11_code
def y_Mk_finishPage : MethodName := ⟨"PictureFile$Maker", "finishPage", "()V"⟩
abbrev b_Pn_get : ByteArray := prog_4_method_2_code
def y_Pn_get : MethodName := ⟨"PictureFile$PageNumbers", "get", "(II)J"⟩
abbrev b_Pn_set : ByteArray := prog_4_method_3_code
def y_Pn_set : MethodName := ⟨"PictureFile$PageNumbers", "set", "(IIJ)V"⟩
abbrev b_Pn_wrongTag : ByteArray := prog_4_method_4_code
def y_Pn_wrongTag : MethodName := ⟨"PictureFile$PageNumbers", "wrongTag", "(I)I"⟩
abbrev b_En_forgetAll : ByteArray := prog_2_method_2_code
def y_En_forgetAll : MethodName := ⟨"PictureFile$Entries", "forgetAll", "()V"⟩
abbrev b_En_widestType : ByteArray := prog_2_method_3_code
def y_En_widestType : MethodName := ⟨"PictureFile$Entries", "widestType", "(I)I"⟩
abbrev b_En_canHaveType : ByteArray := prog_2_method_4_code
def y_En_canHaveType : MethodName := ⟨"PictureFile$Entries", "canHaveType", "(II)Z"⟩
abbrev b_En_canHaveCount : ByteArray := prog_2_method_5_code
def y_En_canHaveCount : MethodName := ⟨"PictureFile$Entries", "canHaveCount", "(IJ)Z"⟩
abbrev b_En_bytesOf : ByteArray := prog_2_method_6_code
def y_En_bytesOf : MethodName := ⟨"PictureFile$Entries", "bytesOf", "(I)I"⟩
abbrev b_En_keepEntry : ByteArray := prog_2_method_8_code
def y_En_keepEntry : MethodName := ⟨"PictureFile$Entries", "keepEntry", "(IIII)V"⟩
abbrev b_En_take : ByteArray := prog_2_method_7_code
def y_En_take : MethodName := ⟨"PictureFile$Entries", "take", "(III)I"⟩
abbrev b_En_countOf : ByteArray := prog_2_method_9_code
def y_En_countOf : MethodName := ⟨"PictureFile$Entries", "countOf", "(I)I"⟩
abbrev b_En_firstMissing : ByteArray := prog_2_method_10_code
def y_En_firstMissing : MethodName := ⟨"PictureFile$Entries", "firstMissing", "()I"⟩
abbrev b_En_number : ByteArray := prog_2_method_11_code
def y_En_number : MethodName := ⟨"PictureFile$Entries", "number", "(IIIJ)J"⟩
abbrev b_Rd_hasPage : ByteArray := prog_5_method_2_code
def y_Rd_hasPage : MethodName := ⟨"PictureFile$Reader", "hasPage", "(I)Z"⟩
abbrev b_Rd_hasStrip : ByteArray := prog_5_method_3_code
def y_Rd_hasStrip : MethodName := ⟨"PictureFile$Reader", "hasStrip", "(II)Z"⟩
abbrev b_Rd_ofStrip : ByteArray := prog_5_method_4_code
def y_Rd_ofStrip : MethodName := ⟨"PictureFile$Reader", "ofStrip", "(III)I"⟩
abbrev b_Rd_faultNumber : ByteArray := prog_5_method_5_code
def y_Rd_faultNumber : MethodName := ⟨"PictureFile$Reader", "faultNumber", "(I)I"⟩
abbrev b_Rd_forgetAll : ByteArray := prog_5_method_7_code
def y_Rd_forgetAll : MethodName := ⟨"PictureFile$Reader", "forgetAll", "()V"⟩
abbrev b_Rd_refuse : ByteArray := prog_5_method_8_code
def y_Rd_refuse : MethodName := ⟨"PictureFile$Reader", "refuse", "(III)Z"⟩
abbrev b_Rd_takeHead : ByteArray := prog_5_method_9_code
def y_Rd_takeHead : MethodName := ⟨"PictureFile$Reader", "takeHead", "()Z"⟩
abbrev b_Rd_entriesAt : ByteArray := prog_5_method_11_code
def y_Rd_entriesAt : MethodName := ⟨"PictureFile$Reader", "entriesAt", "(J)I"⟩
abbrev b_Rd_linkOf : ByteArray := prog_5_method_12_code
def y_Rd_linkOf : MethodName := ⟨"PictureFile$Reader", "linkOf", "(J)J"⟩
abbrev b_Rd_isDirectory : ByteArray := prog_5_method_13_code
def y_Rd_isDirectory : MethodName := ⟨"PictureFile$Reader", "isDirectory", "(J)Z"⟩
abbrev b_Rd_takeEntries : ByteArray := prog_5_method_14_code
def y_Rd_takeEntries : MethodName := ⟨"PictureFile$Reader", "takeEntries", "(I)Z"⟩
abbrev b_Rd_hasNeededTags : ByteArray := prog_5_method_15_code
def y_Rd_hasNeededTags : MethodName := ⟨"PictureFile$Reader", "hasNeededTags", "()Z"⟩
abbrev b_Rd_keep : ByteArray := prog_5_method_17_code
def y_Rd_keep : MethodName := ⟨"PictureFile$Reader", "keep", "(IJ)V"⟩
abbrev b_Rd_takeNumbers : ByteArray := prog_5_method_16_code
def y_Rd_takeNumbers : MethodName := ⟨"PictureFile$Reader", "takeNumbers", "(J)Z"⟩
abbrev b_Rd_wrongCount : ByteArray := prog_5_method_19_code
def y_Rd_wrongCount : MethodName := ⟨"PictureFile$Reader", "wrongCount", "(I)I"⟩
abbrev b_Rd_takeStrips : ByteArray := prog_5_method_18_code
def y_Rd_takeStrips : MethodName := ⟨"PictureFile$Reader", "takeStrips", "()Z"⟩
abbrev b_Rd_takePage : ByteArray := prog_5_method_10_code
def y_Rd_takePage : MethodName := ⟨"PictureFile$Reader", "takePage", "(J)Z"⟩
abbrev b_Rd_goThrough : ByteArray := prog_5_method_6_code
def y_Rd_goThrough : MethodName := ⟨"PictureFile$Reader", "goThrough", "()V"⟩
abbrev b_PF_give : ByteArray := prog_1_method_2_code
def y_PF_give : MethodName := ⟨"PictureFile", "give", "(JI)Z"⟩
abbrev b_PF_poke : ByteArray := prog_1_method_3_code
def y_PF_poke : MethodName := ⟨"PictureFile", "poke", "(II)Z"⟩
abbrev b_PF_cut : ByteArray := prog_1_method_4_code
def y_PF_cut : MethodName := ⟨"PictureFile", "cut", "(I)Z"⟩
abbrev b_PF_bytes : ByteArray := prog_1_method_5_code
def y_PF_bytes : MethodName := ⟨"PictureFile", "bytes", "(I)J"⟩
abbrev b_PF_put : ByteArray := prog_1_method_8_code
def y_PF_put : MethodName := ⟨"PictureFile", "put", "(JI)Z"⟩
abbrev b_PF_fault : ByteArray := prog_1_method_13_code
def y_PF_fault : MethodName := ⟨"PictureFile", "fault", "(I)I"⟩
abbrev b_PF_look : ByteArray := prog_1_method_17_code
def y_PF_look : MethodName := ⟨"PictureFile", "look", "(I)I"⟩
abbrev b_Row_init : ByteArray := prog_6_method_1_code
def y_Row_init : MethodName := ⟨"PictureFile$Row", "<init>", "()V"⟩
abbrev b_St_init : ByteArray := prog_7_method_1_code
def y_St_init : MethodName := ⟨"PictureFile$Strips", "<init>", "(I)V"⟩
abbrev b_Mk_init : ByteArray := prog_3_method_1_code
def y_Mk_init : MethodName := ⟨"PictureFile$Maker", "<init>", "(LPictureFile$Row;)V"⟩
abbrev b_Pn_init : ByteArray := prog_4_method_1_code
def y_Pn_init : MethodName := ⟨"PictureFile$PageNumbers", "<init>", "()V"⟩
abbrev b_En_init : ByteArray := prog_2_method_1_code
def y_En_init : MethodName := ⟨"PictureFile$Entries", "<init>", "(LPictureFile$Row;)V"⟩
abbrev b_Rd_init : ByteArray := prog_5_method_1_code
def y_Rd_init : MethodName := ⟨"PictureFile$Reader", "<init>", "(LPictureFile$Row;)V"⟩
abbrev b_PF_init : ByteArray := prog_1_method_1_code
def y_PF_init : MethodName := ⟨"PictureFile", "<init>", "()V"⟩
abbrev b_PF_begin : ByteArray := prog_1_method_6_code
def y_PF_begin : MethodName := ⟨"PictureFile", "begin", "(I)V"⟩
abbrev b_PF_page : ByteArray := prog_1_method_7_code
def y_PF_page : MethodName := ⟨"PictureFile", "page", "(IIIII)I"⟩
abbrev b_PF_strip : ByteArray := prog_1_method_9_code
def y_PF_strip : MethodName := ⟨"PictureFile", "strip", "()I"⟩
abbrev b_PF_close : ByteArray := prog_1_method_10_code
def y_PF_close : MethodName := ⟨"PictureFile", "close", "()I"⟩
abbrev b_PF_end : ByteArray := prog_1_method_11_code
def y_PF_end : MethodName := ⟨"PictureFile", "end", "()I"⟩
abbrev b_PF_read : ByteArray := prog_1_method_12_code
def y_PF_read : MethodName := ⟨"PictureFile", "read", "()I"⟩
abbrev b_PF_of : ByteArray := prog_1_method_14_code
def y_PF_of : MethodName := ⟨"PictureFile", "of", "(II)J"⟩
abbrev b_PF_where : ByteArray := prog_1_method_15_code
def y_PF_where : MethodName := ⟨"PictureFile", "where", "(III)I"⟩
abbrev b_PF_dots : ByteArray := prog_1_method_16_code
def y_PF_dots : MethodName := ⟨"PictureFile", "dots", "(III)I"⟩
abbrev b_copyOfB : ByteArray := prog_20_method_121_code
def y_copyOfB : MethodName := ⟨"java/util/Arrays", "copyOf", "([BI)[B"⟩
abbrev b_copyOfI : ByteArray := prog_20_method_123_code
def y_copyOfI : MethodName := ⟨"java/util/Arrays", "copyOf", "([II)[I"⟩
abbrev b_fillI : ByteArray := prog_20_method_103_code
def y_fillI : MethodName := ⟨"java/util/Arrays", "fill", "([II)V"⟩
-- the words that the methods ask of the tables
def BW0 : List Cond := [
  .constantLong "PictureFile" 53 8,
  .methodLink "PictureFile" 180 y_PF_isWithin,
  .code y_PF_isWithin b_PF_isWithin 6 (some .boolean),
  .initialized "PictureFile",
  .static y_PF_isWithin,
  .constantLong "PictureFile" 184 10000,
  .constantLong "PictureFile" 186 20000,
  .methodLink "PictureFile" 188 y_PF_stripsOf,
  .code y_PF_stripsOf b_PF_stripsOf 4 (some .long),
  .static y_PF_stripsOf,
  .constantLong "PictureFile" 192 512,
  .fieldLink "PictureFile$Row" 15 "PictureFile$Row" "size" "I",
  .fieldLink "PictureFile$Row" 11 "PictureFile$Row" "cells" "[B",
  .constant "PictureFile$Row" 19 65536,
  .methodLink "PictureFile$Row" 20 Lib.Math.min.name,
  .static Lib.Math.min.name,
  .initialized "java/lang/Math",
  .code Lib.Math.min.name Lib.Math.min.code 2 (some .int),
  .methodLink "PictureFile$Row" 26 y_copyOfB,
  .code y_copyOfB b_copyOfB 3 (some (.array .byte)),
  .initialized "java/util/Arrays",
  .static y_copyOfB,
  .methodLink "PictureFile$Row" 32 y_Row_at,
  .code y_Row_at b_Row_at 3 (some .int),
  .initialized "PictureFile$Row",
  .instanceMethod y_Row_at,
  .selects R_Row y_Row_at y_Row_at,
  .methodLink "PictureFile$Row" 36 y_Row_shiftOf,
  .code y_Row_shiftOf b_Row_shiftOf 3 (some .int),
  .static y_Row_shiftOf,
  .methodLink "PictureFile$Row" 40 y_Row_add,
  .code y_Row_add b_Row_add 2 none,
  .instanceMethod y_Row_add,
  .selects R_Row y_Row_add y_Row_add,
  .methodLink "PictureFile$Row" 44 y_Row_replace,
  .code y_Row_replace b_Row_replace 3 none,
  .instanceMethod y_Row_replace,
  .selects R_Row y_Row_replace y_Row_replace,
  .fieldLink "PictureFile$Strips" 9 "PictureFile$Strips" "cells" "[I",
  .fieldLink "PictureFile$Strips" 17 "PictureFile$Strips" "count" "I",
  .fieldLink "PictureFile$Strips" 13 "PictureFile$Strips" "most" "I",
  .methodLink "PictureFile$Strips" 20 Lib.Math.min.name,
  .methodLink "PictureFile$Strips" 26 y_copyOfI,
  .code y_copyOfI b_copyOfI 3 (some (.array .int)),
  .static y_copyOfI,
  .fieldLink "PictureFile$Maker" 20 "PictureFile$Maker" "file" "LPictureFile$Row;",
  .fieldLink "PictureFile$Maker" 28 "PictureFile$Maker" "order" "I",
  .methodLinkNest "PictureFile$Maker" 46 y_Row_append "PictureFile",
  .code y_Row_append b_Row_append 6 none,
  .instanceMethod y_Row_append,
  .selects R_Row y_Row_append y_Row_append,
  .fieldLink "PictureFile$Maker" 78 "PictureFile$Maker" "onPage" "Z",
  .fieldLink "PictureFile$Maker" 75 "PictureFile$Maker" "stripsDue" "I",
  .fieldLink "PictureFile$Maker" 81 "PictureFile$Maker" "stripBytes" "I",
  .fieldLink "PictureFile$Maker" 16 "PictureFile$Maker" "strips" "LPictureFile$Strips;",
  .fieldLinkNest "PictureFile$Maker" 84 "PictureFile$Strips" "count" "I" "PictureFile",
  .fieldLink "PictureFile$Maker" 24 "PictureFile$Maker" "making" "Z",
  .fieldLink "PictureFile$Maker" 32 "PictureFile$Maker" "pages" "I",
  .fieldLink "PictureFile$Maker" 35 "PictureFile$Maker" "link" "I",
  .methodLink "PictureFile$Maker" 38 y_Mk_leavePage,
  .code y_Mk_leavePage b_Mk_leavePage 1 none,
  .initialized "PictureFile$Maker",
  .instanceMethod y_Mk_leavePage,
  .selects R_Mk y_Mk_leavePage y_Mk_leavePage,
  .fieldLinkNest "PictureFile$Maker" 41 "PictureFile$Row" "size" "I" "PictureFile",
  .methodLink "PictureFile$Maker" 50 y_Mk_addShort,
  .code y_Mk_addShort b_Mk_addShort 2 none,
  .instanceMethod y_Mk_addShort,
  .selects R_Mk y_Mk_addShort y_Mk_addShort,
  .methodLink "PictureFile$Maker" 53 y_Mk_addLong,
  .code y_Mk_addLong b_Mk_addLong 2 none,
  .instanceMethod y_Mk_addLong,
  .selects R_Mk y_Mk_addLong y_Mk_addLong,
  .fieldLink "PictureFile$Maker" 56 "PictureFile$Maker" "width" "I",
  .fieldLink "PictureFile$Maker" 59 "PictureFile$Maker" "height" "I",
  .fieldLink "PictureFile$Maker" 62 "PictureFile$Maker" "rows" "I",
  .fieldLink "PictureFile$Maker" 65 "PictureFile$Maker" "across" "I",
  .fieldLink "PictureFile$Maker" 68 "PictureFile$Maker" "down" "I",
  .methodLinkNest "PictureFile$Maker" 71 y_PF_stripsOf "PictureFile",
  .constant "PictureFile$Maker" 87 60000,
  .methodLinkNest "PictureFile$Maker" 88 y_Row_makeEven "PictureFile",
  .code y_Row_makeEven b_Row_makeEven 1 none,
  .instanceMethod y_Row_makeEven,
  .selects R_Row y_Row_makeEven y_Row_makeEven,
  .methodLinkNest "PictureFile$Maker" 91 y_St_add "PictureFile",
  .code y_St_add b_St_add 4 none,
  .initialized "PictureFile$Strips",
  .instanceMethod y_St_add,
  .selects R_St y_St_add y_St_add,
  .methodLink "PictureFile$Maker" 95 y_Mk_hasLists,
  .code y_Mk_hasLists b_Mk_hasLists 1 (some .boolean),
  .instanceMethod y_Mk_hasLists,
  .selects R_Mk y_Mk_hasLists y_Mk_hasLists,
  .methodLinkNest "PictureFile$Maker" 112 y_St_get "PictureFile",
  .code y_St_get b_St_get 4 (some .int),
  .instanceMethod y_St_get,
  .selects R_St y_St_get y_St_get,
  .methodLink "PictureFile$Maker" 116 y_Mk_addEntry,
  .code y_Mk_addEntry b_Mk_addEntry 5 none,
  .instanceMethod y_Mk_addEntry,
  .selects R_Mk y_Mk_addEntry y_Mk_addEntry,
  .methodLink "PictureFile$Maker" 102 y_Mk_addFineness,
  .code y_Mk_addFineness b_Mk_addFineness 2 none,
  .instanceMethod y_Mk_addFineness,
  .selects R_Mk y_Mk_addFineness y_Mk_addFineness,
  .methodLink "PictureFile$Maker" 105 y_Mk_addDirectory,
  .code y_Mk_addDirectory b_Mk_addDirectory 4 none,
  .instanceMethod y_Mk_addDirectory,
  .selects R_Mk y_Mk_addDirectory y_Mk_addDirectory,
  .methodLinkNest "PictureFile$Maker" 108 y_Row_replaceLong "PictureFile",
  .code y_Row_replaceLong b_Row_replaceLong 6 none,
  .instanceMethod y_Row_replaceLong,
  .selects R_Row y_Row_replaceLong y_Row_replaceLong,
  .methodLink "PictureFile$Maker" 99 y_Mk_addList,
  .code y_Mk_addList b_Mk_addList 3 none,
  .instanceMethod y_Mk_addList,
  .selects R_Mk y_Mk_addList y_Mk_addList,
  .fieldLink "PictureFile$PageNumbers" 11 "PictureFile$PageNumbers" "cells" "[J",
  .methodLink "PictureFile$PageNumbers" 15 y_Pn_get,
  .code y_Pn_get b_Pn_get 4 (some .long),
  .initialized "PictureFile$PageNumbers",
  .instanceMethod y_Pn_get,
  .selects R_Pn y_Pn_get y_Pn_get,
  .constantLong "PictureFile$PageNumbers" 19 20000,
  .methodLinkNest "PictureFile$PageNumbers" 21 y_PF_isWithin "PictureFile",
  .constantLong "PictureFile$PageNumbers" 27 2,
  .constantLong "PictureFile$PageNumbers" 29 3,
  .constantLong "PictureFile$PageNumbers" 25 4,
  .fieldLink "PictureFile$Entries" 15 "PictureFile$Entries" "counts" "[I",
  .methodLink "PictureFile$Entries" 25 y_fillI,
  .code y_fillI b_fillI 4 none,
  .static y_fillI,
  .methodLink "PictureFile$Entries" 31 y_En_widestType,
  .code y_En_widestType b_En_widestType 1 (some .int),
  .initialized "PictureFile$Entries",
  .static y_En_widestType,
  .constantLong "PictureFile$Entries" 35 4096,
  .methodLinkNest "PictureFile$Entries" 37 y_PF_isWithin "PictureFile",
  .fieldLink "PictureFile$Entries" 11 "PictureFile$Entries" "types" "[I",
  .fieldLink "PictureFile$Entries" 18 "PictureFile$Entries" "places" "[I",
  .fieldLink "PictureFile$Entries" 21 "PictureFile$Entries" "file" "LPictureFile$Row;",
  .methodLinkNest "PictureFile$Entries" 41 y_Row_number "PictureFile",
  .code y_Row_number b_Row_number 8 (some .long),
  .instanceMethod y_Row_number,
  .selects R_Row y_Row_number y_Row_number,
  .methodLink "PictureFile$Entries" 47 y_En_canHaveType,
  .code y_En_canHaveType b_En_canHaveType 3 (some .boolean),
  .static y_En_canHaveType,
  .methodLink "PictureFile$Entries" 51 y_En_canHaveCount,
  .code y_En_canHaveCount b_En_canHaveCount 3 (some .boolean),
  .static y_En_canHaveCount,
  .methodLink "PictureFile$Entries" 55 y_En_bytesOf,
  .code y_En_bytesOf b_En_bytesOf 1 (some .int),
  .static y_En_bytesOf,
  .constantLong "PictureFile$Entries" 58 4,
  .fieldLinkNest "PictureFile$Entries" 60 "PictureFile$Row" "size" "I" "PictureFile",
  .methodLink "PictureFile$Entries" 64 y_En_keepEntry,
  .code y_En_keepEntry b_En_keepEntry 5 none,
  .instanceMethod y_En_keepEntry,
  .selects R_En y_En_keepEntry y_En_keepEntry,
  .methodLink "PictureFile$Entries" 68 y_En_countOf,
  .code y_En_countOf b_En_countOf 3 (some .int),
  .instanceMethod y_En_countOf,
  .selects R_En y_En_countOf y_En_countOf,
  .fieldLink "PictureFile$Reader" 44 "PictureFile$Reader" "pages" "I",
  .methodLink "PictureFile$Reader" 48 y_Rd_hasPage,
  .code y_Rd_hasPage b_Rd_hasPage 2 (some .boolean),
  .initialized "PictureFile$Reader",
  .instanceMethod y_Rd_hasPage,
  .selects R_Rd y_Rd_hasPage y_Rd_hasPage,
  .fieldLink "PictureFile$Reader" 12 "PictureFile$Reader" "numbers" "LPictureFile$PageNumbers;",
  .methodLinkNest "PictureFile$Reader" 52 y_Pn_get "PictureFile",
  .fieldLink "PictureFile$Reader" 27 "PictureFile$Reader" "firstStrips" "[I",
  .fieldLink "PictureFile$Reader" 23 "PictureFile$Reader" "strips" "LPictureFile$Strips;",
  .methodLinkNest "PictureFile$Reader" 56 y_St_get "PictureFile",
  .fieldLink "PictureFile$Reader" 59 "PictureFile$Reader" "faultKind" "I",
  .fieldLink "PictureFile$Reader" 62 "PictureFile$Reader" "faultPage" "I",
  .fieldLink "PictureFile$Reader" 65 "PictureFile$Reader" "faultTag" "I",
  .fieldLink "PictureFile$Reader" 68 "PictureFile$Reader" "faultStrip" "I",
  .fieldLink "PictureFile$Reader" 80 "PictureFile$Reader" "order" "I",
  .fieldLink "PictureFile$Reader" 89 "PictureFile$Reader" "current" "I",
  .fieldLinkNest "PictureFile$Reader" 100 "PictureFile$Strips" "count" "I" "PictureFile",
  .fieldLink "PictureFile$Reader" 31 "PictureFile$Reader" "file" "LPictureFile$Row;",
  .methodLinkNest "PictureFile$Reader" 103 y_Row_at "PictureFile",
  .fieldLinkNest "PictureFile$Reader" 107 "PictureFile$Row" "size" "I" "PictureFile",
  .methodLink "PictureFile$Reader" 117 y_Rd_refuse,
  .code y_Rd_refuse b_Rd_refuse 4 (some .boolean),
  .instanceMethod y_Rd_refuse,
  .selects R_Rd y_Rd_refuse y_Rd_refuse,
  .methodLinkNest "PictureFile$Reader" 110 y_PF_isOrder "PictureFile",
  .code y_PF_isOrder b_PF_isOrder 1 (some .boolean),
  .static y_PF_isOrder,
  .constantLong "PictureFile$Reader" 113 2,
  .methodLinkNest "PictureFile$Reader" 83 y_Row_number "PictureFile",
  .constantLong "PictureFile$Reader" 115 42,
  .methodLink "PictureFile$Reader" 136 y_Rd_entriesAt,
  .code y_Rd_entriesAt b_Rd_entriesAt 3 (some .int),
  .instanceMethod y_Rd_entriesAt,
  .selects R_Rd y_Rd_entriesAt y_Rd_entriesAt,
  .constantLong "PictureFile$Reader" 139 8,
  .methodLink "PictureFile$Reader" 96 y_Rd_linkOf,
  .code y_Rd_linkOf b_Rd_linkOf 3 (some .long),
  .instanceMethod y_Rd_linkOf,
  .selects R_Rd y_Rd_linkOf y_Rd_linkOf,
  .constantLong "PictureFile$Reader" 78 4,
  .fieldLink "PictureFile$Reader" 40 "PictureFile$Reader" "entries" "LPictureFile$Entries;",
  .methodLinkNest "PictureFile$Reader" 141 y_En_forgetAll "PictureFile",
  .code y_En_forgetAll b_En_forgetAll 1 none,
  .instanceMethod y_En_forgetAll,
  .selects R_En y_En_forgetAll y_En_forgetAll,
  .methodLinkNest "PictureFile$Reader" 142 y_En_take "PictureFile",
  .code y_En_take b_En_take 11 (some .int),
  .instanceMethod y_En_take,
  .selects R_En y_En_take y_En_take,
  .methodLinkNest "PictureFile$Reader" 146 y_En_firstMissing "PictureFile",
  .code y_En_firstMissing b_En_firstMissing 1 (some .int),
  .instanceMethod y_En_firstMissing,
  .selects R_En y_En_firstMissing y_En_firstMissing,
  .methodLinkNest "PictureFile$Reader" 172 y_Pn_set "PictureFile",
  .code y_Pn_set b_Pn_set 6 none,
  .instanceMethod y_Pn_set,
  .selects R_Pn y_Pn_set y_Pn_set,
  .methodLinkNest "PictureFile$Reader" 150 y_En_number "PictureFile",
  .code y_En_number b_En_number 8 (some .long),
  .instanceMethod y_En_number,
  .selects R_En y_En_number y_En_number,
  .methodLink "PictureFile$Reader" 153 y_Rd_keep,
  .code y_Rd_keep b_Rd_keep 4 none,
  .instanceMethod y_Rd_keep,
  .selects R_Rd y_Rd_keep y_Rd_keep,
  .constantLong "PictureFile$Reader" 157 300,
  .methodLink "PictureFile$Reader" 159 Lib.MathLoose.min_long.x,
  .static Lib.MathLoose.min_long.x,
  .code Lib.MathLoose.min_long.x Lib.MathLoose.min_long.code 4 (some .long),
  .methodLinkNest "PictureFile$Reader" 165 y_PF_stripsOf "PictureFile",
  .methodLinkNest "PictureFile$Reader" 168 y_Pn_wrongTag "PictureFile",
  .code y_Pn_wrongTag b_Pn_wrongTag 4 (some .int),
  .instanceMethod y_Pn_wrongTag,
  .selects R_Pn y_Pn_wrongTag y_Pn_wrongTag,
  .methodLinkNest "PictureFile$Reader" 183 y_En_countOf "PictureFile",
  .methodLink "PictureFile$Reader" 176 y_Rd_wrongCount,
  .code y_Rd_wrongCount b_Rd_wrongCount 2 (some .int),
  .instanceMethod y_Rd_wrongCount,
  .selects R_Rd y_Rd_wrongCount y_Rd_wrongCount,
  .methodLinkNest "PictureFile$Reader" 179 y_St_add "PictureFile",
  .methodLink "PictureFile$Reader" 121 y_Rd_isDirectory,
  .code y_Rd_isDirectory b_Rd_isDirectory 3 (some .boolean),
  .instanceMethod y_Rd_isDirectory,
  .selects R_Rd y_Rd_isDirectory y_Rd_isDirectory,
  .methodLink "PictureFile$Reader" 124 y_Rd_takeEntries,
  .code y_Rd_takeEntries b_Rd_takeEntries 8 (some .boolean),
  .instanceMethod y_Rd_takeEntries,
  .selects R_Rd y_Rd_takeEntries y_Rd_takeEntries,
  .methodLink "PictureFile$Reader" 127 y_Rd_hasNeededTags,
  .code y_Rd_hasNeededTags b_Rd_hasNeededTags 2 (some .boolean),
  .instanceMethod y_Rd_hasNeededTags,
  .selects R_Rd y_Rd_hasNeededTags y_Rd_hasNeededTags,
  .methodLink "PictureFile$Reader" 130 y_Rd_takeNumbers,
  .code y_Rd_takeNumbers b_Rd_takeNumbers 8 (some .boolean),
  .instanceMethod y_Rd_takeNumbers,
  .selects R_Rd y_Rd_takeNumbers y_Rd_takeNumbers,
  .methodLink "PictureFile$Reader" 133 y_Rd_takeStrips,
  .code y_Rd_takeStrips b_Rd_takeStrips 8 (some .boolean),
  .instanceMethod y_Rd_takeStrips,
  .selects R_Rd y_Rd_takeStrips y_Rd_takeStrips,
  .methodLink "PictureFile$Reader" 71 y_Rd_forgetAll,
  .code y_Rd_forgetAll b_Rd_forgetAll 1 none,
  .instanceMethod y_Rd_forgetAll,
  .selects R_Rd y_Rd_forgetAll y_Rd_forgetAll,
  .methodLink "PictureFile$Reader" 74 y_Rd_takeHead,
  .code y_Rd_takeHead b_Rd_takeHead 2 (some .boolean),
  .instanceMethod y_Rd_takeHead,
  .selects R_Rd y_Rd_takeHead y_Rd_takeHead,
  .methodLink "PictureFile$Reader" 92 y_Rd_takePage,
  .code y_Rd_takePage b_Rd_takePage 3 (some .boolean),
  .instanceMethod y_Rd_takePage,
  .selects R_Rd y_Rd_takePage y_Rd_takePage,
  .fieldLink "PictureFile" 21 "PictureFile" "maker" "LPictureFile$Maker;",
  .fieldLinkNest "PictureFile" 32 "PictureFile$Maker" "making" "Z" "PictureFile",
  .methodLink "PictureFile" 36 y_PF_isPartLength,
  .code y_PF_isPartLength b_PF_isPartLength 1 (some .boolean),
  .static y_PF_isPartLength,
  .fieldLink "PictureFile" 10 "PictureFile" "file" "LPictureFile$Row;",
  .fieldLinkNest "PictureFile" 40 "PictureFile$Row" "size" "I" "PictureFile",
  .constant "PictureFile" 44 65536,
  .methodLinkNest "PictureFile" 45 y_Row_append "PictureFile",
  .methodLinkNest "PictureFile" 49 y_Row_replace "PictureFile",
  .methodLinkNest "PictureFile" 55 y_Row_number "PictureFile",
  .methodLinkNest "PictureFile" 97 y_Mk_stripsToCome "PictureFile",
  .code y_Mk_stripsToCome b_Mk_stripsToCome 1 (some .int),
  .instanceMethod y_Mk_stripsToCome,
  .selects R_Mk y_Mk_stripsToCome y_Mk_stripsToCome,
  .methodLinkNest "PictureFile" 101 y_Mk_hasRoomFor "PictureFile",
  .code y_Mk_hasRoomFor b_Mk_hasRoomFor 3 (some .boolean),
  .instanceMethod y_Mk_hasRoomFor,
  .selects R_Mk y_Mk_hasRoomFor y_Mk_hasRoomFor,
  .methodLinkNest "PictureFile" 104 y_Mk_addToStrip "PictureFile",
  .code y_Mk_addToStrip b_Mk_addToStrip 4 none,
  .instanceMethod y_Mk_addToStrip,
  .selects R_Mk y_Mk_addToStrip y_Mk_addToStrip,
  .fieldLink "PictureFile" 28 "PictureFile" "reader" "LPictureFile$Reader;",
  .methodLinkNest "PictureFile" 132 y_Rd_faultNumber "PictureFile",
  .code y_Rd_faultNumber b_Rd_faultNumber 2 (some .int),
  .instanceMethod y_Rd_faultNumber,
  .selects R_Rd y_Rd_faultNumber y_Rd_faultNumber,
  .fieldLinkNest "PictureFile" 73 "PictureFile$Maker" "onPage" "Z" "PictureFile",
  .fieldLinkNest "PictureFile" 76 "PictureFile$Maker" "pages" "I" "PictureFile",
  .fieldLinkNest "PictureFile" 174 "PictureFile$Maker" "stripBytes" "I" "PictureFile",
  .fieldLinkNest "PictureFile" 131 "PictureFile$Reader" "pages" "I" "PictureFile",
  .fieldLinkNest "PictureFile" 177 "PictureFile$Reader" "order" "I" "PictureFile",
  .methodLink "PictureFile$Row" 3 objectInit,
  .instanceMethod objectInit,
  .code objectInit ⟨#[0xb1]⟩ 1 none,
  .arrayClass .byte,
  .methodLink "PictureFile$Strips" 1 objectInit,
  .arrayClass .int,
  .methodLink "PictureFile$Maker" 5 objectInit,
  .classLink "PictureFile$Maker" 11 "PictureFile$Strips",
  .instantiable "PictureFile$Strips" 3,
  .methodLinkNest "PictureFile$Maker" 13 y_St_init "PictureFile",
  .code y_St_init b_St_init 2 none,
  .instanceMethod y_St_init,
  .methodLink "PictureFile$PageNumbers" 3 objectInit,
  .arrayClass .long,
  .methodLink "PictureFile$Entries" 3 objectInit,
  .methodLink "PictureFile$Reader" 3 objectInit,
  .classLink "PictureFile$Reader" 9 "PictureFile$PageNumbers",
  .instantiable "PictureFile$PageNumbers" 1,
  .methodLinkNest "PictureFile$Reader" 11 y_Pn_init "PictureFile",
  .code y_Pn_init b_Pn_init 1 none,
  .instanceMethod y_Pn_init,
  .classLink "PictureFile$Reader" 18 "PictureFile$Strips",
  .methodLinkNest "PictureFile$Reader" 20 y_St_init "PictureFile",
  .classLink "PictureFile$Reader" 35 "PictureFile$Entries",
  .instantiable "PictureFile$Entries" 4,
  .methodLinkNest "PictureFile$Reader" 37 y_En_init "PictureFile",
  .code y_En_init b_En_init 2 none,
  .instanceMethod y_En_init,
  .methodLink "PictureFile" 1 objectInit,
  .classLink "PictureFile" 7 "PictureFile$Row",
  .instantiable "PictureFile$Row" 2,
  .methodLinkNest "PictureFile" 9 y_Row_init "PictureFile",
  .code y_Row_init b_Row_init 1 none,
  .instanceMethod y_Row_init,
  .classLink "PictureFile" 16 "PictureFile$Maker",
  .instantiable "PictureFile$Maker" 14,
  .methodLinkNest "PictureFile" 18 y_Mk_init "PictureFile",
  .code y_Mk_init b_Mk_init 2 none,
  .instanceMethod y_Mk_init,
  .classLink "PictureFile" 25 "PictureFile$Reader",
  .instantiable "PictureFile$Reader" 12,
  .methodLinkNest "PictureFile" 27 y_Rd_init "PictureFile",
  .code y_Rd_init b_Rd_init 2 none,
  .instanceMethod y_Rd_init,
  .methodLink "PictureFile" 59 y_PF_isOrder,
  .classLink "PictureFile" 62 "java/lang/IllegalArgumentException",
  .initialized "java/lang/IllegalArgumentException",
  .methodLinkNest "PictureFile" 69 y_Mk_startFile "PictureFile",
  .code y_Mk_startFile b_Mk_startFile 2 none,
  .instanceMethod y_Mk_startFile,
  .selects R_Mk y_Mk_startFile y_Mk_startFile,
  .methodLink "PictureFile" 84 y_PF_isSheet,
  .code y_PF_isSheet b_PF_isSheet 3 (some .boolean),
  .static y_PF_isSheet,
  .methodLink "PictureFile" 88 y_PF_isFineness,
  .code y_PF_isFineness b_PF_isFineness 1 (some .boolean),
  .static y_PF_isFineness,
  .classLink "PictureFile" 79 "java/lang/IllegalStateException",
  .initialized "java/lang/IllegalStateException",
  .methodLinkNest "PictureFile" 93 y_Mk_startPage "PictureFile",
  .code y_Mk_startPage b_Mk_startPage 6 none,
  .instanceMethod y_Mk_startPage,
  .selects R_Mk y_Mk_startPage y_Mk_startPage,
  .methodLinkNest "PictureFile" 110 y_Mk_finishStrip "PictureFile",
  .code y_Mk_finishStrip b_Mk_finishStrip 1 none,
  .instanceMethod y_Mk_finishStrip,
  .selects R_Mk y_Mk_finishStrip y_Mk_finishStrip,
  .methodLinkNest "PictureFile" 113 y_Mk_sizeWithPage "PictureFile",
  .code y_Mk_sizeWithPage b_Mk_sizeWithPage 2 (some .int),
  .instanceMethod y_Mk_sizeWithPage,
  .selects R_Mk y_Mk_sizeWithPage y_Mk_sizeWithPage,
  .methodLinkNest "PictureFile" 118 y_Mk_finishPage "PictureFile",
  .code y_Mk_finishPage b_Mk_finishPage 4 none,
  .instanceMethod y_Mk_finishPage,
  .selects R_Mk y_Mk_finishPage y_Mk_finishPage,
  .methodLinkNest "PictureFile" 125 y_Rd_goThrough "PictureFile",
  .code y_Rd_goThrough b_Rd_goThrough 4 none,
  .instanceMethod y_Rd_goThrough,
  .selects R_Rd y_Rd_goThrough y_Rd_goThrough,
  .fieldLinkNest "PictureFile" 128 "PictureFile$Reader" "faultKind" "I" "PictureFile",
  .methodLinkNest "PictureFile" 136 y_Rd_hasPage "PictureFile",
  .classLink "PictureFile" 141 "java/lang/IndexOutOfBoundsException",
  .initialized "java/lang/IndexOutOfBoundsException",
  .fieldLinkNest "PictureFile" 146 "PictureFile$Reader" "numbers" "LPictureFile$PageNumbers;" "PictureFile",
  .methodLinkNest "PictureFile" 150 y_Pn_get "PictureFile",
  .methodLinkNest "PictureFile" 154 y_Rd_hasStrip "PictureFile",
  .code y_Rd_hasStrip b_Rd_hasStrip 3 (some .boolean),
  .instanceMethod y_Rd_hasStrip,
  .selects R_Rd y_Rd_hasStrip y_Rd_hasStrip,
  .methodLinkNest "PictureFile" 162 y_Rd_ofStrip "PictureFile",
  .code y_Rd_ofStrip b_Rd_ofStrip 4 (some .int),
  .instanceMethod y_Rd_ofStrip,
  .selects R_Rd y_Rd_ofStrip y_Rd_ofStrip,
  .methodLinkNest "PictureFile" 170 y_Row_at "PictureFile",
  .lays "PictureFile$Row" "PictureFile$Row" "cells" "[B",
  .lays "PictureFile$Row" "PictureFile$Row" "size" "I",
  .laysFinal "PictureFile$Strips" "PictureFile$Strips" "most" "I",
  .lays "PictureFile$Strips" "PictureFile$Strips" "cells" "[I",
  .lays "PictureFile$Strips" "PictureFile$Strips" "count" "I",
  .laysFinal "PictureFile$Maker" "PictureFile$Maker" "file" "LPictureFile$Row;",
  .laysFinal "PictureFile$Maker" "PictureFile$Maker" "strips" "LPictureFile$Strips;",
  .lays "PictureFile$Maker" "PictureFile$Maker" "making" "Z",
  .lays "PictureFile$Maker" "PictureFile$Maker" "onPage" "Z",
  .lays "PictureFile$Maker" "PictureFile$Maker" "order" "I",
  .lays "PictureFile$Maker" "PictureFile$Maker" "pages" "I",
  .lays "PictureFile$Maker" "PictureFile$Maker" "link" "I",
  .lays "PictureFile$Maker" "PictureFile$Maker" "width" "I",
  .lays "PictureFile$Maker" "PictureFile$Maker" "height" "I",
  .lays "PictureFile$Maker" "PictureFile$Maker" "rows" "I",
  .lays "PictureFile$Maker" "PictureFile$Maker" "across" "I",
  .lays "PictureFile$Maker" "PictureFile$Maker" "down" "I",
  .lays "PictureFile$Maker" "PictureFile$Maker" "stripsDue" "I",
  .lays "PictureFile$Maker" "PictureFile$Maker" "stripBytes" "I",
  .laysFinal "PictureFile$PageNumbers" "PictureFile$PageNumbers" "cells" "[J",
  .laysFinal "PictureFile$Entries" "PictureFile$Entries" "file" "LPictureFile$Row;",
  .laysFinal "PictureFile$Entries" "PictureFile$Entries" "types" "[I",
  .laysFinal "PictureFile$Entries" "PictureFile$Entries" "counts" "[I",
  .laysFinal "PictureFile$Entries" "PictureFile$Entries" "places" "[I",
  .laysFinal "PictureFile$Reader" "PictureFile$Reader" "file" "LPictureFile$Row;",
  .laysFinal "PictureFile$Reader" "PictureFile$Reader" "entries" "LPictureFile$Entries;",
  .laysFinal "PictureFile$Reader" "PictureFile$Reader" "numbers" "LPictureFile$PageNumbers;",
  .laysFinal "PictureFile$Reader" "PictureFile$Reader" "strips" "LPictureFile$Strips;",
  .laysFinal "PictureFile$Reader" "PictureFile$Reader" "firstStrips" "[I",
  .lays "PictureFile$Reader" "PictureFile$Reader" "pages" "I",
  .lays "PictureFile$Reader" "PictureFile$Reader" "order" "I",
  .lays "PictureFile$Reader" "PictureFile$Reader" "current" "I",
  .lays "PictureFile$Reader" "PictureFile$Reader" "faultKind" "I",
  .lays "PictureFile$Reader" "PictureFile$Reader" "faultPage" "I",
  .lays "PictureFile$Reader" "PictureFile$Reader" "faultTag" "I",
  .lays "PictureFile$Reader" "PictureFile$Reader" "faultStrip" "I",
  .laysFinal "PictureFile" "PictureFile" "file" "LPictureFile$Row;",
  .laysFinal "PictureFile" "PictureFile" "maker" "LPictureFile$Maker;",
  .laysFinal "PictureFile" "PictureFile" "reader" "LPictureFile$Reader;",
  .methodLink "java/util/Arrays" 304 Lib.Math.min.name,
  .methodLink "java/util/Arrays" 150 arraycopyName,
  .native arraycopyName,
  .static arraycopyName,
  .initialized "java/lang/System"]
def AT_IAE : List Cond := Bundle.ownAtoms "PictureFile" 66 "java/lang/IllegalArgumentException" ["java/lang/RuntimeException", "java/lang/Exception"]
def AT_ISE : List Cond := Bundle.ownAtoms "PictureFile" 83 "java/lang/IllegalStateException" ["java/lang/RuntimeException", "java/lang/Exception"]
def AT_IOE : List Cond := Bundle.ownAtoms "PictureFile" 145 "java/lang/IndexOutOfBoundsException" ["java/lang/RuntimeException", "java/lang/Exception"]
def isR (w : Cond) : Bool := match w with | .isRef _ => true | .laysStatic .. => true | _ => false
def BW : List Cond := BW0 ++ AT_IAE.filter (fun w => !isR w) ++ AT_ISE.filter (fun w => !isR w) ++ AT_IOE.filter (fun w => !isR w)
theorem bw0 {w : Cond} (h : w ∈ BW0) : w ∈ BW := by unfold BW; simp only [List.mem_append]; simp only [h, true_or]
theorem in0_Row : ∀ w ∈ u_ws R_Row F_Row 2, w ∈ BW0 := by decide +kernel
theorem in0_St : ∀ w ∈ u_ws R_St F_St 3, w ∈ BW0 := by decide +kernel
theorem in0_Mk : ∀ w ∈ u_ws R_Mk F_Mk 14, w ∈ BW0 := by decide +kernel
theorem in0_Pn : ∀ w ∈ u_ws R_Pn F_Pn 1, w ∈ BW0 := by decide +kernel
theorem in0_En : ∀ w ∈ u_ws R_En F_En 4, w ∈ BW0 := by decide +kernel
theorem in0_Rd : ∀ w ∈ u_ws R_Rd F_Rd 12, w ∈ BW0 := by decide +kernel
theorem in0_PF : ∀ w ∈ u_ws R_PF F_PF 3, w ∈ BW0 := by decide +kernel
theorem bw_ok : ∀ w ∈ BW, wk_ok w = true := by decide +kernel
def TS : List (String × Nat × String) := [("PictureFile", 64, "the order is not 73 or 77"), ("PictureFile", 91, "there can be no such page"), ("PictureFile", 81, "no page can be begun now"), ("PictureFile", 108, "no strip is being made"), ("PictureFile", 116, "no page can be closed now"), ("PictureFile", 121, "no file can be ended now"), ("PictureFile", 123, "a file is being made"), ("PictureFile", 143, "no such page or number"), ("PictureFile", 160, "no such strip or number"), ("PictureFile", 166, "no such byte of a strip"), ("PictureFile", 168, "the file has no such byte any more")]
theorem kw_0 : (.constantLong "PictureFile" 53 8 : Cond) ∈ BW := bw0 (List.mem_of_getElem? (l := BW0) (i := 0) rfl)
theorem kw_1 : (.methodLink "PictureFile" 180 y_PF_isWithin : Cond) ∈ BW := bw0 (List.mem_of_getElem? (l := BW0) (i := 1) rfl)
theorem kw_2 : (.code y_PF_isWithin b_PF_isWithin 6 (some .boolean) : Cond) ∈ BW := bw0 (List.mem_of_getElem? (l := BW0) (i := 2) rfl)
theorem kw_3 : (.initialized "PictureFile" : Cond) ∈ BW := bw0 (List.mem_of_getElem? (l := BW0) (i := 3) rfl)
theorem kw_4 : (.static y_PF_isWithin : Cond) ∈ BW := bw0 (List.mem_of_getElem? (l := BW0) (i := 4) rfl)
theorem kw_5 : (.constantLong "PictureFile" 184 10000 : Cond) ∈ BW := bw0 (List.mem_of_getElem? (l := BW0) (i := 5) rfl)
theorem kw_6 : (.constantLong "PictureFile" 186 20000 : Cond) ∈ BW := bw0 (List.mem_of_getElem? (l := BW0) (i := 6) rfl)
theorem kw_7 : (.methodLink "PictureFile" 188 y_PF_stripsOf : Cond) ∈ BW := bw0 (List.mem_of_getElem? (l := BW0) (i := 7) rfl)
theorem kw_8 : (.code y_PF_stripsOf b_PF_stripsOf 4 (some .long) : Cond) ∈ BW := bw0 (List.mem_of_getElem? (l := BW0) (i := 8) rfl)
theorem kw_9 : (.static y_PF_stripsOf : Cond) ∈ BW := bw0 (List.mem_of_getElem? (l := BW0) (i := 9) rfl)
theorem kw_10 : (.constantLong "PictureFile" 192 512 : Cond) ∈ BW := bw0 (List.mem_of_getElem? (l := BW0) (i := 10) rfl)
theorem kw_11 : (.fieldLink "PictureFile$Row" 15 "PictureFile$Row" "size" "I" : Cond) ∈ BW := bw0 (List.mem_of_getElem? (l := BW0) (i := 11) rfl)
theorem kw_12 : (.fieldLink "PictureFile$Row" 11 "PictureFile$Row" "cells" "[B" : Cond) ∈ BW := bw0 (List.mem_of_getElem? (l := BW0) (i := 12) rfl)
theorem kw_13 : (.constant "PictureFile$Row" 19 65536 : Cond) ∈ BW := bw0 (List.mem_of_getElem? (l := BW0) (i := 13) rfl)
theorem kw_14 : (.methodLink "PictureFile$Row" 20 Lib.Math.min.name : Cond) ∈ BW := bw0 (List.mem_of_getElem? (l := BW0) (i := 14) rfl)
theorem kw_15 : (.static Lib.Math.min.name : Cond) ∈ BW := bw0 (List.mem_of_getElem? (l := BW0) (i := 15) rfl)
theorem kw_16 : (.initialized "java/lang/Math" : Cond) ∈ BW := bw0 (List.mem_of_getElem? (l := BW0) (i := 16) rfl)
theorem kw_17 : (.code Lib.Math.min.name Lib.Math.min.code 2 (some .int) : Cond) ∈ BW := bw0 (List.mem_of_getElem? (l := BW0) (i := 17) rfl)
theorem kw_18 : (.methodLink "PictureFile$Row" 26 y_copyOfB : Cond) ∈ BW := bw0 (List.mem_of_getElem? (l := BW0) (i := 18) rfl)
theorem kw_19 : (.code y_copyOfB b_copyOfB 3 (some (.array .byte)) : Cond) ∈ BW := bw0 (List.mem_of_getElem? (l := BW0) (i := 19) rfl)
theorem kw_20 : (.initialized "java/util/Arrays" : Cond) ∈ BW := bw0 (List.mem_of_getElem? (l := BW0) (i := 20) rfl)
theorem kw_21 : (.static y_copyOfB : Cond) ∈ BW := bw0 (List.mem_of_getElem? (l := BW0) (i := 21) rfl)
theorem kw_22 : (.methodLink "PictureFile$Row" 32 y_Row_at : Cond) ∈ BW := bw0 (List.mem_of_getElem? (l := BW0) (i := 22) rfl)
theorem kw_23 : (.code y_Row_at b_Row_at 3 (some .int) : Cond) ∈ BW := bw0 (List.mem_of_getElem? (l := BW0) (i := 23) rfl)
theorem kw_24 : (.initialized "PictureFile$Row" : Cond) ∈ BW := bw0 (List.mem_of_getElem? (l := BW0) (i := 24) rfl)
theorem kw_25 : (.instanceMethod y_Row_at : Cond) ∈ BW := bw0 (List.mem_of_getElem? (l := BW0) (i := 25) rfl)
theorem kw_26 : (.selects R_Row y_Row_at y_Row_at : Cond) ∈ BW := bw0 (List.mem_of_getElem? (l := BW0) (i := 26) rfl)
theorem kw_27 : (.methodLink "PictureFile$Row" 36 y_Row_shiftOf : Cond) ∈ BW := bw0 (List.mem_of_getElem? (l := BW0) (i := 27) rfl)
theorem kw_28 : (.code y_Row_shiftOf b_Row_shiftOf 3 (some .int) : Cond) ∈ BW := bw0 (List.mem_of_getElem? (l := BW0) (i := 28) rfl)
theorem kw_29 : (.static y_Row_shiftOf : Cond) ∈ BW := bw0 (List.mem_of_getElem? (l := BW0) (i := 29) rfl)
theorem kw_30 : (.methodLink "PictureFile$Row" 40 y_Row_add : Cond) ∈ BW := bw0 (List.mem_of_getElem? (l := BW0) (i := 30) rfl)
theorem kw_31 : (.code y_Row_add b_Row_add 2 none : Cond) ∈ BW := bw0 (List.mem_of_getElem? (l := BW0) (i := 31) rfl)
theorem kw_32 : (.instanceMethod y_Row_add : Cond) ∈ BW := bw0 (List.mem_of_getElem? (l := BW0) (i := 32) rfl)
theorem kw_33 : (.selects R_Row y_Row_add y_Row_add : Cond) ∈ BW := bw0 (List.mem_of_getElem? (l := BW0) (i := 33) rfl)
theorem kw_34 : (.methodLink "PictureFile$Row" 44 y_Row_replace : Cond) ∈ BW := bw0 (List.mem_of_getElem? (l := BW0) (i := 34) rfl)
theorem kw_35 : (.code y_Row_replace b_Row_replace 3 none : Cond) ∈ BW := bw0 (List.mem_of_getElem? (l := BW0) (i := 35) rfl)
theorem kw_36 : (.instanceMethod y_Row_replace : Cond) ∈ BW := bw0 (List.mem_of_getElem? (l := BW0) (i := 36) rfl)
theorem kw_37 : (.selects R_Row y_Row_replace y_Row_replace : Cond) ∈ BW := bw0 (List.mem_of_getElem? (l := BW0) (i := 37) rfl)
theorem kw_38 : (.fieldLink "PictureFile$Strips" 9 "PictureFile$Strips" "cells" "[I" : Cond) ∈ BW := bw0 (List.mem_of_getElem? (l := BW0) (i := 38) rfl)
theorem kw_39 : (.fieldLink "PictureFile$Strips" 17 "PictureFile$Strips" "count" "I" : Cond) ∈ BW := bw0 (List.mem_of_getElem? (l := BW0) (i := 39) rfl)
theorem kw_40 : (.fieldLink "PictureFile$Strips" 13 "PictureFile$Strips" "most" "I" : Cond) ∈ BW := bw0 (List.mem_of_getElem? (l := BW0) (i := 40) rfl)
theorem kw_41 : (.methodLink "PictureFile$Strips" 20 Lib.Math.min.name : Cond) ∈ BW := bw0 (List.mem_of_getElem? (l := BW0) (i := 41) rfl)
theorem kw_42 : (.methodLink "PictureFile$Strips" 26 y_copyOfI : Cond) ∈ BW := bw0 (List.mem_of_getElem? (l := BW0) (i := 42) rfl)
theorem kw_43 : (.code y_copyOfI b_copyOfI 3 (some (.array .int)) : Cond) ∈ BW := bw0 (List.mem_of_getElem? (l := BW0) (i := 43) rfl)
theorem kw_44 : (.static y_copyOfI : Cond) ∈ BW := bw0 (List.mem_of_getElem? (l := BW0) (i := 44) rfl)
theorem kw_45 : (.fieldLink "PictureFile$Maker" 20 "PictureFile$Maker" "file" "LPictureFile$Row;" : Cond) ∈ BW := bw0 (List.mem_of_getElem? (l := BW0) (i := 45) rfl)
theorem kw_46 : (.fieldLink "PictureFile$Maker" 28 "PictureFile$Maker" "order" "I" : Cond) ∈ BW := bw0 (List.mem_of_getElem? (l := BW0) (i := 46) rfl)
theorem kw_47 : (.methodLinkNest "PictureFile$Maker" 46 y_Row_append "PictureFile" : Cond) ∈ BW := bw0 (List.mem_of_getElem? (l := BW0) (i := 47) rfl)
theorem kw_48 : (.code y_Row_append b_Row_append 6 none : Cond) ∈ BW := bw0 (List.mem_of_getElem? (l := BW0) (i := 48) rfl)
theorem kw_49 : (.instanceMethod y_Row_append : Cond) ∈ BW := bw0 (List.mem_of_getElem? (l := BW0) (i := 49) rfl)
theorem kw_50 : (.selects R_Row y_Row_append y_Row_append : Cond) ∈ BW := bw0 (List.mem_of_getElem? (l := BW0) (i := 50) rfl)
theorem kw_51 : (.fieldLink "PictureFile$Maker" 78 "PictureFile$Maker" "onPage" "Z" : Cond) ∈ BW := bw0 (List.mem_of_getElem? (l := BW0) (i := 51) rfl)
theorem kw_52 : (.fieldLink "PictureFile$Maker" 75 "PictureFile$Maker" "stripsDue" "I" : Cond) ∈ BW := bw0 (List.mem_of_getElem? (l := BW0) (i := 52) rfl)
theorem kw_53 : (.fieldLink "PictureFile$Maker" 81 "PictureFile$Maker" "stripBytes" "I" : Cond) ∈ BW := bw0 (List.mem_of_getElem? (l := BW0) (i := 53) rfl)
theorem kw_54 : (.fieldLink "PictureFile$Maker" 16 "PictureFile$Maker" "strips" "LPictureFile$Strips;" : Cond) ∈ BW := bw0 (List.mem_of_getElem? (l := BW0) (i := 54) rfl)
theorem kw_55 : (.fieldLinkNest "PictureFile$Maker" 84 "PictureFile$Strips" "count" "I" "PictureFile" : Cond) ∈ BW := bw0 (List.mem_of_getElem? (l := BW0) (i := 55) rfl)
theorem kw_56 : (.fieldLink "PictureFile$Maker" 24 "PictureFile$Maker" "making" "Z" : Cond) ∈ BW := bw0 (List.mem_of_getElem? (l := BW0) (i := 56) rfl)
theorem kw_57 : (.fieldLink "PictureFile$Maker" 32 "PictureFile$Maker" "pages" "I" : Cond) ∈ BW := bw0 (List.mem_of_getElem? (l := BW0) (i := 57) rfl)
theorem kw_58 : (.fieldLink "PictureFile$Maker" 35 "PictureFile$Maker" "link" "I" : Cond) ∈ BW := bw0 (List.mem_of_getElem? (l := BW0) (i := 58) rfl)
theorem kw_59 : (.methodLink "PictureFile$Maker" 38 y_Mk_leavePage : Cond) ∈ BW := bw0 (List.mem_of_getElem? (l := BW0) (i := 59) rfl)
theorem kw_60 : (.code y_Mk_leavePage b_Mk_leavePage 1 none : Cond) ∈ BW := bw0 (List.mem_of_getElem? (l := BW0) (i := 60) rfl)
theorem kw_61 : (.initialized "PictureFile$Maker" : Cond) ∈ BW := bw0 (List.mem_of_getElem? (l := BW0) (i := 61) rfl)
theorem kw_62 : (.instanceMethod y_Mk_leavePage : Cond) ∈ BW := bw0 (List.mem_of_getElem? (l := BW0) (i := 62) rfl)
theorem kw_63 : (.selects R_Mk y_Mk_leavePage y_Mk_leavePage : Cond) ∈ BW := bw0 (List.mem_of_getElem? (l := BW0) (i := 63) rfl)
theorem kw_64 : (.fieldLinkNest "PictureFile$Maker" 41 "PictureFile$Row" "size" "I" "PictureFile" : Cond) ∈ BW := bw0 (List.mem_of_getElem? (l := BW0) (i := 64) rfl)
theorem kw_65 : (.methodLink "PictureFile$Maker" 50 y_Mk_addShort : Cond) ∈ BW := bw0 (List.mem_of_getElem? (l := BW0) (i := 65) rfl)
theorem kw_66 : (.code y_Mk_addShort b_Mk_addShort 2 none : Cond) ∈ BW := bw0 (List.mem_of_getElem? (l := BW0) (i := 66) rfl)
theorem kw_67 : (.instanceMethod y_Mk_addShort : Cond) ∈ BW := bw0 (List.mem_of_getElem? (l := BW0) (i := 67) rfl)
theorem kw_68 : (.selects R_Mk y_Mk_addShort y_Mk_addShort : Cond) ∈ BW := bw0 (List.mem_of_getElem? (l := BW0) (i := 68) rfl)
theorem kw_69 : (.methodLink "PictureFile$Maker" 53 y_Mk_addLong : Cond) ∈ BW := bw0 (List.mem_of_getElem? (l := BW0) (i := 69) rfl)
theorem kw_70 : (.code y_Mk_addLong b_Mk_addLong 2 none : Cond) ∈ BW := bw0 (List.mem_of_getElem? (l := BW0) (i := 70) rfl)
theorem kw_71 : (.instanceMethod y_Mk_addLong : Cond) ∈ BW := bw0 (List.mem_of_getElem? (l := BW0) (i := 71) rfl)
theorem kw_72 : (.selects R_Mk y_Mk_addLong y_Mk_addLong : Cond) ∈ BW := bw0 (List.mem_of_getElem? (l := BW0) (i := 72) rfl)
theorem kw_73 : (.fieldLink "PictureFile$Maker" 56 "PictureFile$Maker" "width" "I" : Cond) ∈ BW := bw0 (List.mem_of_getElem? (l := BW0) (i := 73) rfl)
theorem kw_74 : (.fieldLink "PictureFile$Maker" 59 "PictureFile$Maker" "height" "I" : Cond) ∈ BW := bw0 (List.mem_of_getElem? (l := BW0) (i := 74) rfl)
theorem kw_75 : (.fieldLink "PictureFile$Maker" 62 "PictureFile$Maker" "rows" "I" : Cond) ∈ BW := bw0 (List.mem_of_getElem? (l := BW0) (i := 75) rfl)
theorem kw_76 : (.fieldLink "PictureFile$Maker" 65 "PictureFile$Maker" "across" "I" : Cond) ∈ BW := bw0 (List.mem_of_getElem? (l := BW0) (i := 76) rfl)
theorem kw_77 : (.fieldLink "PictureFile$Maker" 68 "PictureFile$Maker" "down" "I" : Cond) ∈ BW := bw0 (List.mem_of_getElem? (l := BW0) (i := 77) rfl)
theorem kw_78 : (.methodLinkNest "PictureFile$Maker" 71 y_PF_stripsOf "PictureFile" : Cond) ∈ BW := bw0 (List.mem_of_getElem? (l := BW0) (i := 78) rfl)
theorem kw_79 : (.constant "PictureFile$Maker" 87 60000 : Cond) ∈ BW := bw0 (List.mem_of_getElem? (l := BW0) (i := 79) rfl)
theorem kw_80 : (.methodLinkNest "PictureFile$Maker" 88 y_Row_makeEven "PictureFile" : Cond) ∈ BW := bw0 (List.mem_of_getElem? (l := BW0) (i := 80) rfl)
theorem kw_81 : (.code y_Row_makeEven b_Row_makeEven 1 none : Cond) ∈ BW := bw0 (List.mem_of_getElem? (l := BW0) (i := 81) rfl)
theorem kw_82 : (.instanceMethod y_Row_makeEven : Cond) ∈ BW := bw0 (List.mem_of_getElem? (l := BW0) (i := 82) rfl)
theorem kw_83 : (.selects R_Row y_Row_makeEven y_Row_makeEven : Cond) ∈ BW := bw0 (List.mem_of_getElem? (l := BW0) (i := 83) rfl)
theorem kw_84 : (.methodLinkNest "PictureFile$Maker" 91 y_St_add "PictureFile" : Cond) ∈ BW := bw0 (List.mem_of_getElem? (l := BW0) (i := 84) rfl)
theorem kw_85 : (.code y_St_add b_St_add 4 none : Cond) ∈ BW := bw0 (List.mem_of_getElem? (l := BW0) (i := 85) rfl)
theorem kw_86 : (.initialized "PictureFile$Strips" : Cond) ∈ BW := bw0 (List.mem_of_getElem? (l := BW0) (i := 86) rfl)
theorem kw_87 : (.instanceMethod y_St_add : Cond) ∈ BW := bw0 (List.mem_of_getElem? (l := BW0) (i := 87) rfl)
theorem kw_88 : (.selects R_St y_St_add y_St_add : Cond) ∈ BW := bw0 (List.mem_of_getElem? (l := BW0) (i := 88) rfl)
theorem kw_89 : (.methodLink "PictureFile$Maker" 95 y_Mk_hasLists : Cond) ∈ BW := bw0 (List.mem_of_getElem? (l := BW0) (i := 89) rfl)
theorem kw_90 : (.code y_Mk_hasLists b_Mk_hasLists 1 (some .boolean) : Cond) ∈ BW := bw0 (List.mem_of_getElem? (l := BW0) (i := 90) rfl)
theorem kw_91 : (.instanceMethod y_Mk_hasLists : Cond) ∈ BW := bw0 (List.mem_of_getElem? (l := BW0) (i := 91) rfl)
theorem kw_92 : (.selects R_Mk y_Mk_hasLists y_Mk_hasLists : Cond) ∈ BW := bw0 (List.mem_of_getElem? (l := BW0) (i := 92) rfl)
theorem kw_93 : (.methodLinkNest "PictureFile$Maker" 112 y_St_get "PictureFile" : Cond) ∈ BW := bw0 (List.mem_of_getElem? (l := BW0) (i := 93) rfl)
theorem kw_94 : (.code y_St_get b_St_get 4 (some .int) : Cond) ∈ BW := bw0 (List.mem_of_getElem? (l := BW0) (i := 94) rfl)
theorem kw_95 : (.instanceMethod y_St_get : Cond) ∈ BW := bw0 (List.mem_of_getElem? (l := BW0) (i := 95) rfl)
theorem kw_96 : (.selects R_St y_St_get y_St_get : Cond) ∈ BW := bw0 (List.mem_of_getElem? (l := BW0) (i := 96) rfl)
theorem kw_97 : (.methodLink "PictureFile$Maker" 116 y_Mk_addEntry : Cond) ∈ BW := bw0 (List.mem_of_getElem? (l := BW0) (i := 97) rfl)
theorem kw_98 : (.code y_Mk_addEntry b_Mk_addEntry 5 none : Cond) ∈ BW := bw0 (List.mem_of_getElem? (l := BW0) (i := 98) rfl)
theorem kw_99 : (.instanceMethod y_Mk_addEntry : Cond) ∈ BW := bw0 (List.mem_of_getElem? (l := BW0) (i := 99) rfl)
theorem kw_100 : (.selects R_Mk y_Mk_addEntry y_Mk_addEntry : Cond) ∈ BW := bw0 (List.mem_of_getElem? (l := BW0) (i := 100) rfl)
theorem kw_101 : (.methodLink "PictureFile$Maker" 102 y_Mk_addFineness : Cond) ∈ BW := bw0 (List.mem_of_getElem? (l := BW0) (i := 101) rfl)
theorem kw_102 : (.code y_Mk_addFineness b_Mk_addFineness 2 none : Cond) ∈ BW := bw0 (List.mem_of_getElem? (l := BW0) (i := 102) rfl)
theorem kw_103 : (.instanceMethod y_Mk_addFineness : Cond) ∈ BW := bw0 (List.mem_of_getElem? (l := BW0) (i := 103) rfl)
theorem kw_104 : (.selects R_Mk y_Mk_addFineness y_Mk_addFineness : Cond) ∈ BW := bw0 (List.mem_of_getElem? (l := BW0) (i := 104) rfl)
theorem kw_105 : (.methodLink "PictureFile$Maker" 105 y_Mk_addDirectory : Cond) ∈ BW := bw0 (List.mem_of_getElem? (l := BW0) (i := 105) rfl)
theorem kw_106 : (.code y_Mk_addDirectory b_Mk_addDirectory 4 none : Cond) ∈ BW := bw0 (List.mem_of_getElem? (l := BW0) (i := 106) rfl)
theorem kw_107 : (.instanceMethod y_Mk_addDirectory : Cond) ∈ BW := bw0 (List.mem_of_getElem? (l := BW0) (i := 107) rfl)
theorem kw_108 : (.selects R_Mk y_Mk_addDirectory y_Mk_addDirectory : Cond) ∈ BW := bw0 (List.mem_of_getElem? (l := BW0) (i := 108) rfl)
theorem kw_109 : (.methodLinkNest "PictureFile$Maker" 108 y_Row_replaceLong "PictureFile" : Cond) ∈ BW := bw0 (List.mem_of_getElem? (l := BW0) (i := 109) rfl)
theorem kw_110 : (.code y_Row_replaceLong b_Row_replaceLong 6 none : Cond) ∈ BW := bw0 (List.mem_of_getElem? (l := BW0) (i := 110) rfl)
theorem kw_111 : (.instanceMethod y_Row_replaceLong : Cond) ∈ BW := bw0 (List.mem_of_getElem? (l := BW0) (i := 111) rfl)
theorem kw_112 : (.selects R_Row y_Row_replaceLong y_Row_replaceLong : Cond) ∈ BW := bw0 (List.mem_of_getElem? (l := BW0) (i := 112) rfl)
theorem kw_113 : (.methodLink "PictureFile$Maker" 99 y_Mk_addList : Cond) ∈ BW := bw0 (List.mem_of_getElem? (l := BW0) (i := 113) rfl)
theorem kw_114 : (.code y_Mk_addList b_Mk_addList 3 none : Cond) ∈ BW := bw0 (List.mem_of_getElem? (l := BW0) (i := 114) rfl)
theorem kw_115 : (.instanceMethod y_Mk_addList : Cond) ∈ BW := bw0 (List.mem_of_getElem? (l := BW0) (i := 115) rfl)
theorem kw_116 : (.selects R_Mk y_Mk_addList y_Mk_addList : Cond) ∈ BW := bw0 (List.mem_of_getElem? (l := BW0) (i := 116) rfl)
theorem kw_117 : (.fieldLink "PictureFile$PageNumbers" 11 "PictureFile$PageNumbers" "cells" "[J" : Cond) ∈ BW := bw0 (List.mem_of_getElem? (l := BW0) (i := 117) rfl)
theorem kw_118 : (.methodLink "PictureFile$PageNumbers" 15 y_Pn_get : Cond) ∈ BW := bw0 (List.mem_of_getElem? (l := BW0) (i := 118) rfl)
theorem kw_119 : (.code y_Pn_get b_Pn_get 4 (some .long) : Cond) ∈ BW := bw0 (List.mem_of_getElem? (l := BW0) (i := 119) rfl)
theorem kw_120 : (.initialized "PictureFile$PageNumbers" : Cond) ∈ BW := bw0 (List.mem_of_getElem? (l := BW0) (i := 120) rfl)
theorem kw_121 : (.instanceMethod y_Pn_get : Cond) ∈ BW := bw0 (List.mem_of_getElem? (l := BW0) (i := 121) rfl)
theorem kw_122 : (.selects R_Pn y_Pn_get y_Pn_get : Cond) ∈ BW := bw0 (List.mem_of_getElem? (l := BW0) (i := 122) rfl)
theorem kw_123 : (.constantLong "PictureFile$PageNumbers" 19 20000 : Cond) ∈ BW := bw0 (List.mem_of_getElem? (l := BW0) (i := 123) rfl)
theorem kw_124 : (.methodLinkNest "PictureFile$PageNumbers" 21 y_PF_isWithin "PictureFile" : Cond) ∈ BW := bw0 (List.mem_of_getElem? (l := BW0) (i := 124) rfl)
theorem kw_125 : (.constantLong "PictureFile$PageNumbers" 27 2 : Cond) ∈ BW := bw0 (List.mem_of_getElem? (l := BW0) (i := 125) rfl)
theorem kw_126 : (.constantLong "PictureFile$PageNumbers" 29 3 : Cond) ∈ BW := bw0 (List.mem_of_getElem? (l := BW0) (i := 126) rfl)
theorem kw_127 : (.constantLong "PictureFile$PageNumbers" 25 4 : Cond) ∈ BW := bw0 (List.mem_of_getElem? (l := BW0) (i := 127) rfl)
theorem kw_128 : (.fieldLink "PictureFile$Entries" 15 "PictureFile$Entries" "counts" "[I" : Cond) ∈ BW := bw0 (List.mem_of_getElem? (l := BW0) (i := 128) rfl)
theorem kw_129 : (.methodLink "PictureFile$Entries" 25 y_fillI : Cond) ∈ BW := bw0 (List.mem_of_getElem? (l := BW0) (i := 129) rfl)
theorem kw_130 : (.code y_fillI b_fillI 4 none : Cond) ∈ BW := bw0 (List.mem_of_getElem? (l := BW0) (i := 130) rfl)
theorem kw_131 : (.static y_fillI : Cond) ∈ BW := bw0 (List.mem_of_getElem? (l := BW0) (i := 131) rfl)
theorem kw_132 : (.methodLink "PictureFile$Entries" 31 y_En_widestType : Cond) ∈ BW := bw0 (List.mem_of_getElem? (l := BW0) (i := 132) rfl)
theorem kw_133 : (.code y_En_widestType b_En_widestType 1 (some .int) : Cond) ∈ BW := bw0 (List.mem_of_getElem? (l := BW0) (i := 133) rfl)
theorem kw_134 : (.initialized "PictureFile$Entries" : Cond) ∈ BW := bw0 (List.mem_of_getElem? (l := BW0) (i := 134) rfl)
theorem kw_135 : (.static y_En_widestType : Cond) ∈ BW := bw0 (List.mem_of_getElem? (l := BW0) (i := 135) rfl)
theorem kw_136 : (.constantLong "PictureFile$Entries" 35 4096 : Cond) ∈ BW := bw0 (List.mem_of_getElem? (l := BW0) (i := 136) rfl)
theorem kw_137 : (.methodLinkNest "PictureFile$Entries" 37 y_PF_isWithin "PictureFile" : Cond) ∈ BW := bw0 (List.mem_of_getElem? (l := BW0) (i := 137) rfl)
theorem kw_138 : (.fieldLink "PictureFile$Entries" 11 "PictureFile$Entries" "types" "[I" : Cond) ∈ BW := bw0 (List.mem_of_getElem? (l := BW0) (i := 138) rfl)
theorem kw_139 : (.fieldLink "PictureFile$Entries" 18 "PictureFile$Entries" "places" "[I" : Cond) ∈ BW := bw0 (List.mem_of_getElem? (l := BW0) (i := 139) rfl)
theorem kw_140 : (.fieldLink "PictureFile$Entries" 21 "PictureFile$Entries" "file" "LPictureFile$Row;" : Cond) ∈ BW := bw0 (List.mem_of_getElem? (l := BW0) (i := 140) rfl)
theorem kw_141 : (.methodLinkNest "PictureFile$Entries" 41 y_Row_number "PictureFile" : Cond) ∈ BW := bw0 (List.mem_of_getElem? (l := BW0) (i := 141) rfl)
theorem kw_142 : (.code y_Row_number b_Row_number 8 (some .long) : Cond) ∈ BW := bw0 (List.mem_of_getElem? (l := BW0) (i := 142) rfl)
theorem kw_143 : (.instanceMethod y_Row_number : Cond) ∈ BW := bw0 (List.mem_of_getElem? (l := BW0) (i := 143) rfl)
theorem kw_144 : (.selects R_Row y_Row_number y_Row_number : Cond) ∈ BW := bw0 (List.mem_of_getElem? (l := BW0) (i := 144) rfl)
theorem kw_145 : (.methodLink "PictureFile$Entries" 47 y_En_canHaveType : Cond) ∈ BW := bw0 (List.mem_of_getElem? (l := BW0) (i := 145) rfl)
theorem kw_146 : (.code y_En_canHaveType b_En_canHaveType 3 (some .boolean) : Cond) ∈ BW := bw0 (List.mem_of_getElem? (l := BW0) (i := 146) rfl)
theorem kw_147 : (.static y_En_canHaveType : Cond) ∈ BW := bw0 (List.mem_of_getElem? (l := BW0) (i := 147) rfl)
theorem kw_148 : (.methodLink "PictureFile$Entries" 51 y_En_canHaveCount : Cond) ∈ BW := bw0 (List.mem_of_getElem? (l := BW0) (i := 148) rfl)
theorem kw_149 : (.code y_En_canHaveCount b_En_canHaveCount 3 (some .boolean) : Cond) ∈ BW := bw0 (List.mem_of_getElem? (l := BW0) (i := 149) rfl)
theorem kw_150 : (.static y_En_canHaveCount : Cond) ∈ BW := bw0 (List.mem_of_getElem? (l := BW0) (i := 150) rfl)
theorem kw_151 : (.methodLink "PictureFile$Entries" 55 y_En_bytesOf : Cond) ∈ BW := bw0 (List.mem_of_getElem? (l := BW0) (i := 151) rfl)
theorem kw_152 : (.code y_En_bytesOf b_En_bytesOf 1 (some .int) : Cond) ∈ BW := bw0 (List.mem_of_getElem? (l := BW0) (i := 152) rfl)
theorem kw_153 : (.static y_En_bytesOf : Cond) ∈ BW := bw0 (List.mem_of_getElem? (l := BW0) (i := 153) rfl)
theorem kw_154 : (.constantLong "PictureFile$Entries" 58 4 : Cond) ∈ BW := bw0 (List.mem_of_getElem? (l := BW0) (i := 154) rfl)
theorem kw_155 : (.fieldLinkNest "PictureFile$Entries" 60 "PictureFile$Row" "size" "I" "PictureFile" : Cond) ∈ BW := bw0 (List.mem_of_getElem? (l := BW0) (i := 155) rfl)
theorem kw_156 : (.methodLink "PictureFile$Entries" 64 y_En_keepEntry : Cond) ∈ BW := bw0 (List.mem_of_getElem? (l := BW0) (i := 156) rfl)
theorem kw_157 : (.code y_En_keepEntry b_En_keepEntry 5 none : Cond) ∈ BW := bw0 (List.mem_of_getElem? (l := BW0) (i := 157) rfl)
theorem kw_158 : (.instanceMethod y_En_keepEntry : Cond) ∈ BW := bw0 (List.mem_of_getElem? (l := BW0) (i := 158) rfl)
theorem kw_159 : (.selects R_En y_En_keepEntry y_En_keepEntry : Cond) ∈ BW := bw0 (List.mem_of_getElem? (l := BW0) (i := 159) rfl)
theorem kw_160 : (.methodLink "PictureFile$Entries" 68 y_En_countOf : Cond) ∈ BW := bw0 (List.mem_of_getElem? (l := BW0) (i := 160) rfl)
theorem kw_161 : (.code y_En_countOf b_En_countOf 3 (some .int) : Cond) ∈ BW := bw0 (List.mem_of_getElem? (l := BW0) (i := 161) rfl)
theorem kw_162 : (.instanceMethod y_En_countOf : Cond) ∈ BW := bw0 (List.mem_of_getElem? (l := BW0) (i := 162) rfl)
theorem kw_163 : (.selects R_En y_En_countOf y_En_countOf : Cond) ∈ BW := bw0 (List.mem_of_getElem? (l := BW0) (i := 163) rfl)
theorem kw_164 : (.fieldLink "PictureFile$Reader" 44 "PictureFile$Reader" "pages" "I" : Cond) ∈ BW := bw0 (List.mem_of_getElem? (l := BW0) (i := 164) rfl)
theorem kw_165 : (.methodLink "PictureFile$Reader" 48 y_Rd_hasPage : Cond) ∈ BW := bw0 (List.mem_of_getElem? (l := BW0) (i := 165) rfl)
theorem kw_166 : (.code y_Rd_hasPage b_Rd_hasPage 2 (some .boolean) : Cond) ∈ BW := bw0 (List.mem_of_getElem? (l := BW0) (i := 166) rfl)
theorem kw_167 : (.initialized "PictureFile$Reader" : Cond) ∈ BW := bw0 (List.mem_of_getElem? (l := BW0) (i := 167) rfl)
theorem kw_168 : (.instanceMethod y_Rd_hasPage : Cond) ∈ BW := bw0 (List.mem_of_getElem? (l := BW0) (i := 168) rfl)
theorem kw_169 : (.selects R_Rd y_Rd_hasPage y_Rd_hasPage : Cond) ∈ BW := bw0 (List.mem_of_getElem? (l := BW0) (i := 169) rfl)
theorem kw_170 : (.fieldLink "PictureFile$Reader" 12 "PictureFile$Reader" "numbers" "LPictureFile$PageNumbers;" : Cond) ∈ BW := bw0 (List.mem_of_getElem? (l := BW0) (i := 170) rfl)
theorem kw_171 : (.methodLinkNest "PictureFile$Reader" 52 y_Pn_get "PictureFile" : Cond) ∈ BW := bw0 (List.mem_of_getElem? (l := BW0) (i := 171) rfl)
theorem kw_172 : (.fieldLink "PictureFile$Reader" 27 "PictureFile$Reader" "firstStrips" "[I" : Cond) ∈ BW := bw0 (List.mem_of_getElem? (l := BW0) (i := 172) rfl)
theorem kw_173 : (.fieldLink "PictureFile$Reader" 23 "PictureFile$Reader" "strips" "LPictureFile$Strips;" : Cond) ∈ BW := bw0 (List.mem_of_getElem? (l := BW0) (i := 173) rfl)
theorem kw_174 : (.methodLinkNest "PictureFile$Reader" 56 y_St_get "PictureFile" : Cond) ∈ BW := bw0 (List.mem_of_getElem? (l := BW0) (i := 174) rfl)
theorem kw_175 : (.fieldLink "PictureFile$Reader" 59 "PictureFile$Reader" "faultKind" "I" : Cond) ∈ BW := bw0 (List.mem_of_getElem? (l := BW0) (i := 175) rfl)
theorem kw_176 : (.fieldLink "PictureFile$Reader" 62 "PictureFile$Reader" "faultPage" "I" : Cond) ∈ BW := bw0 (List.mem_of_getElem? (l := BW0) (i := 176) rfl)
theorem kw_177 : (.fieldLink "PictureFile$Reader" 65 "PictureFile$Reader" "faultTag" "I" : Cond) ∈ BW := bw0 (List.mem_of_getElem? (l := BW0) (i := 177) rfl)
theorem kw_178 : (.fieldLink "PictureFile$Reader" 68 "PictureFile$Reader" "faultStrip" "I" : Cond) ∈ BW := bw0 (List.mem_of_getElem? (l := BW0) (i := 178) rfl)
theorem kw_179 : (.fieldLink "PictureFile$Reader" 80 "PictureFile$Reader" "order" "I" : Cond) ∈ BW := bw0 (List.mem_of_getElem? (l := BW0) (i := 179) rfl)
theorem kw_180 : (.fieldLink "PictureFile$Reader" 89 "PictureFile$Reader" "current" "I" : Cond) ∈ BW := bw0 (List.mem_of_getElem? (l := BW0) (i := 180) rfl)
theorem kw_181 : (.fieldLinkNest "PictureFile$Reader" 100 "PictureFile$Strips" "count" "I" "PictureFile" : Cond) ∈ BW := bw0 (List.mem_of_getElem? (l := BW0) (i := 181) rfl)
theorem kw_182 : (.fieldLink "PictureFile$Reader" 31 "PictureFile$Reader" "file" "LPictureFile$Row;" : Cond) ∈ BW := bw0 (List.mem_of_getElem? (l := BW0) (i := 182) rfl)
theorem kw_183 : (.methodLinkNest "PictureFile$Reader" 103 y_Row_at "PictureFile" : Cond) ∈ BW := bw0 (List.mem_of_getElem? (l := BW0) (i := 183) rfl)
theorem kw_184 : (.fieldLinkNest "PictureFile$Reader" 107 "PictureFile$Row" "size" "I" "PictureFile" : Cond) ∈ BW := bw0 (List.mem_of_getElem? (l := BW0) (i := 184) rfl)
theorem kw_185 : (.methodLink "PictureFile$Reader" 117 y_Rd_refuse : Cond) ∈ BW := bw0 (List.mem_of_getElem? (l := BW0) (i := 185) rfl)
theorem kw_186 : (.code y_Rd_refuse b_Rd_refuse 4 (some .boolean) : Cond) ∈ BW := bw0 (List.mem_of_getElem? (l := BW0) (i := 186) rfl)
theorem kw_187 : (.instanceMethod y_Rd_refuse : Cond) ∈ BW := bw0 (List.mem_of_getElem? (l := BW0) (i := 187) rfl)
theorem kw_188 : (.selects R_Rd y_Rd_refuse y_Rd_refuse : Cond) ∈ BW := bw0 (List.mem_of_getElem? (l := BW0) (i := 188) rfl)
theorem kw_189 : (.methodLinkNest "PictureFile$Reader" 110 y_PF_isOrder "PictureFile" : Cond) ∈ BW := bw0 (List.mem_of_getElem? (l := BW0) (i := 189) rfl)
theorem kw_190 : (.code y_PF_isOrder b_PF_isOrder 1 (some .boolean) : Cond) ∈ BW := bw0 (List.mem_of_getElem? (l := BW0) (i := 190) rfl)
theorem kw_191 : (.static y_PF_isOrder : Cond) ∈ BW := bw0 (List.mem_of_getElem? (l := BW0) (i := 191) rfl)
theorem kw_192 : (.constantLong "PictureFile$Reader" 113 2 : Cond) ∈ BW := bw0 (List.mem_of_getElem? (l := BW0) (i := 192) rfl)
theorem kw_193 : (.methodLinkNest "PictureFile$Reader" 83 y_Row_number "PictureFile" : Cond) ∈ BW := bw0 (List.mem_of_getElem? (l := BW0) (i := 193) rfl)
theorem kw_194 : (.constantLong "PictureFile$Reader" 115 42 : Cond) ∈ BW := bw0 (List.mem_of_getElem? (l := BW0) (i := 194) rfl)
theorem kw_195 : (.methodLink "PictureFile$Reader" 136 y_Rd_entriesAt : Cond) ∈ BW := bw0 (List.mem_of_getElem? (l := BW0) (i := 195) rfl)
theorem kw_196 : (.code y_Rd_entriesAt b_Rd_entriesAt 3 (some .int) : Cond) ∈ BW := bw0 (List.mem_of_getElem? (l := BW0) (i := 196) rfl)
theorem kw_197 : (.instanceMethod y_Rd_entriesAt : Cond) ∈ BW := bw0 (List.mem_of_getElem? (l := BW0) (i := 197) rfl)
theorem kw_198 : (.selects R_Rd y_Rd_entriesAt y_Rd_entriesAt : Cond) ∈ BW := bw0 (List.mem_of_getElem? (l := BW0) (i := 198) rfl)
theorem kw_199 : (.constantLong "PictureFile$Reader" 139 8 : Cond) ∈ BW := bw0 (List.mem_of_getElem? (l := BW0) (i := 199) rfl)
theorem kw_200 : (.methodLink "PictureFile$Reader" 96 y_Rd_linkOf : Cond) ∈ BW := bw0 (List.mem_of_getElem? (l := BW0) (i := 200) rfl)
theorem kw_201 : (.code y_Rd_linkOf b_Rd_linkOf 3 (some .long) : Cond) ∈ BW := bw0 (List.mem_of_getElem? (l := BW0) (i := 201) rfl)
theorem kw_202 : (.instanceMethod y_Rd_linkOf : Cond) ∈ BW := bw0 (List.mem_of_getElem? (l := BW0) (i := 202) rfl)
theorem kw_203 : (.selects R_Rd y_Rd_linkOf y_Rd_linkOf : Cond) ∈ BW := bw0 (List.mem_of_getElem? (l := BW0) (i := 203) rfl)
theorem kw_204 : (.constantLong "PictureFile$Reader" 78 4 : Cond) ∈ BW := bw0 (List.mem_of_getElem? (l := BW0) (i := 204) rfl)
theorem kw_205 : (.fieldLink "PictureFile$Reader" 40 "PictureFile$Reader" "entries" "LPictureFile$Entries;" : Cond) ∈ BW := bw0 (List.mem_of_getElem? (l := BW0) (i := 205) rfl)
theorem kw_206 : (.methodLinkNest "PictureFile$Reader" 141 y_En_forgetAll "PictureFile" : Cond) ∈ BW := bw0 (List.mem_of_getElem? (l := BW0) (i := 206) rfl)
theorem kw_207 : (.code y_En_forgetAll b_En_forgetAll 1 none : Cond) ∈ BW := bw0 (List.mem_of_getElem? (l := BW0) (i := 207) rfl)
theorem kw_208 : (.instanceMethod y_En_forgetAll : Cond) ∈ BW := bw0 (List.mem_of_getElem? (l := BW0) (i := 208) rfl)
theorem kw_209 : (.selects R_En y_En_forgetAll y_En_forgetAll : Cond) ∈ BW := bw0 (List.mem_of_getElem? (l := BW0) (i := 209) rfl)
theorem kw_210 : (.methodLinkNest "PictureFile$Reader" 142 y_En_take "PictureFile" : Cond) ∈ BW := bw0 (List.mem_of_getElem? (l := BW0) (i := 210) rfl)
theorem kw_211 : (.code y_En_take b_En_take 11 (some .int) : Cond) ∈ BW := bw0 (List.mem_of_getElem? (l := BW0) (i := 211) rfl)
theorem kw_212 : (.instanceMethod y_En_take : Cond) ∈ BW := bw0 (List.mem_of_getElem? (l := BW0) (i := 212) rfl)
theorem kw_213 : (.selects R_En y_En_take y_En_take : Cond) ∈ BW := bw0 (List.mem_of_getElem? (l := BW0) (i := 213) rfl)
theorem kw_214 : (.methodLinkNest "PictureFile$Reader" 146 y_En_firstMissing "PictureFile" : Cond) ∈ BW := bw0 (List.mem_of_getElem? (l := BW0) (i := 214) rfl)
theorem kw_215 : (.code y_En_firstMissing b_En_firstMissing 1 (some .int) : Cond) ∈ BW := bw0 (List.mem_of_getElem? (l := BW0) (i := 215) rfl)
theorem kw_216 : (.instanceMethod y_En_firstMissing : Cond) ∈ BW := bw0 (List.mem_of_getElem? (l := BW0) (i := 216) rfl)
theorem kw_217 : (.selects R_En y_En_firstMissing y_En_firstMissing : Cond) ∈ BW := bw0 (List.mem_of_getElem? (l := BW0) (i := 217) rfl)
theorem kw_218 : (.methodLinkNest "PictureFile$Reader" 172 y_Pn_set "PictureFile" : Cond) ∈ BW := bw0 (List.mem_of_getElem? (l := BW0) (i := 218) rfl)
theorem kw_219 : (.code y_Pn_set b_Pn_set 6 none : Cond) ∈ BW := bw0 (List.mem_of_getElem? (l := BW0) (i := 219) rfl)
theorem kw_220 : (.instanceMethod y_Pn_set : Cond) ∈ BW := bw0 (List.mem_of_getElem? (l := BW0) (i := 220) rfl)
theorem kw_221 : (.selects R_Pn y_Pn_set y_Pn_set : Cond) ∈ BW := bw0 (List.mem_of_getElem? (l := BW0) (i := 221) rfl)
theorem kw_222 : (.methodLinkNest "PictureFile$Reader" 150 y_En_number "PictureFile" : Cond) ∈ BW := bw0 (List.mem_of_getElem? (l := BW0) (i := 222) rfl)
theorem kw_223 : (.code y_En_number b_En_number 8 (some .long) : Cond) ∈ BW := bw0 (List.mem_of_getElem? (l := BW0) (i := 223) rfl)
theorem kw_224 : (.instanceMethod y_En_number : Cond) ∈ BW := bw0 (List.mem_of_getElem? (l := BW0) (i := 224) rfl)
theorem kw_225 : (.selects R_En y_En_number y_En_number : Cond) ∈ BW := bw0 (List.mem_of_getElem? (l := BW0) (i := 225) rfl)
theorem kw_226 : (.methodLink "PictureFile$Reader" 153 y_Rd_keep : Cond) ∈ BW := bw0 (List.mem_of_getElem? (l := BW0) (i := 226) rfl)
theorem kw_227 : (.code y_Rd_keep b_Rd_keep 4 none : Cond) ∈ BW := bw0 (List.mem_of_getElem? (l := BW0) (i := 227) rfl)
theorem kw_228 : (.instanceMethod y_Rd_keep : Cond) ∈ BW := bw0 (List.mem_of_getElem? (l := BW0) (i := 228) rfl)
theorem kw_229 : (.selects R_Rd y_Rd_keep y_Rd_keep : Cond) ∈ BW := bw0 (List.mem_of_getElem? (l := BW0) (i := 229) rfl)
theorem kw_230 : (.constantLong "PictureFile$Reader" 157 300 : Cond) ∈ BW := bw0 (List.mem_of_getElem? (l := BW0) (i := 230) rfl)
theorem kw_231 : (.methodLink "PictureFile$Reader" 159 Lib.MathLoose.min_long.x : Cond) ∈ BW := bw0 (List.mem_of_getElem? (l := BW0) (i := 231) rfl)
theorem kw_232 : (.static Lib.MathLoose.min_long.x : Cond) ∈ BW := bw0 (List.mem_of_getElem? (l := BW0) (i := 232) rfl)
theorem kw_233 : (.code Lib.MathLoose.min_long.x Lib.MathLoose.min_long.code 4 (some .long) : Cond) ∈ BW := bw0 (List.mem_of_getElem? (l := BW0) (i := 233) rfl)
theorem kw_234 : (.methodLinkNest "PictureFile$Reader" 165 y_PF_stripsOf "PictureFile" : Cond) ∈ BW := bw0 (List.mem_of_getElem? (l := BW0) (i := 234) rfl)
theorem kw_235 : (.methodLinkNest "PictureFile$Reader" 168 y_Pn_wrongTag "PictureFile" : Cond) ∈ BW := bw0 (List.mem_of_getElem? (l := BW0) (i := 235) rfl)
theorem kw_236 : (.code y_Pn_wrongTag b_Pn_wrongTag 4 (some .int) : Cond) ∈ BW := bw0 (List.mem_of_getElem? (l := BW0) (i := 236) rfl)
theorem kw_237 : (.instanceMethod y_Pn_wrongTag : Cond) ∈ BW := bw0 (List.mem_of_getElem? (l := BW0) (i := 237) rfl)
theorem kw_238 : (.selects R_Pn y_Pn_wrongTag y_Pn_wrongTag : Cond) ∈ BW := bw0 (List.mem_of_getElem? (l := BW0) (i := 238) rfl)
theorem kw_239 : (.methodLinkNest "PictureFile$Reader" 183 y_En_countOf "PictureFile" : Cond) ∈ BW := bw0 (List.mem_of_getElem? (l := BW0) (i := 239) rfl)
theorem kw_240 : (.methodLink "PictureFile$Reader" 176 y_Rd_wrongCount : Cond) ∈ BW := bw0 (List.mem_of_getElem? (l := BW0) (i := 240) rfl)
theorem kw_241 : (.code y_Rd_wrongCount b_Rd_wrongCount 2 (some .int) : Cond) ∈ BW := bw0 (List.mem_of_getElem? (l := BW0) (i := 241) rfl)
theorem kw_242 : (.instanceMethod y_Rd_wrongCount : Cond) ∈ BW := bw0 (List.mem_of_getElem? (l := BW0) (i := 242) rfl)
theorem kw_243 : (.selects R_Rd y_Rd_wrongCount y_Rd_wrongCount : Cond) ∈ BW := bw0 (List.mem_of_getElem? (l := BW0) (i := 243) rfl)
theorem kw_244 : (.methodLinkNest "PictureFile$Reader" 179 y_St_add "PictureFile" : Cond) ∈ BW := bw0 (List.mem_of_getElem? (l := BW0) (i := 244) rfl)
theorem kw_245 : (.methodLink "PictureFile$Reader" 121 y_Rd_isDirectory : Cond) ∈ BW := bw0 (List.mem_of_getElem? (l := BW0) (i := 245) rfl)
theorem kw_246 : (.code y_Rd_isDirectory b_Rd_isDirectory 3 (some .boolean) : Cond) ∈ BW := bw0 (List.mem_of_getElem? (l := BW0) (i := 246) rfl)
theorem kw_247 : (.instanceMethod y_Rd_isDirectory : Cond) ∈ BW := bw0 (List.mem_of_getElem? (l := BW0) (i := 247) rfl)
theorem kw_248 : (.selects R_Rd y_Rd_isDirectory y_Rd_isDirectory : Cond) ∈ BW := bw0 (List.mem_of_getElem? (l := BW0) (i := 248) rfl)
theorem kw_249 : (.methodLink "PictureFile$Reader" 124 y_Rd_takeEntries : Cond) ∈ BW := bw0 (List.mem_of_getElem? (l := BW0) (i := 249) rfl)
theorem kw_250 : (.code y_Rd_takeEntries b_Rd_takeEntries 8 (some .boolean) : Cond) ∈ BW := bw0 (List.mem_of_getElem? (l := BW0) (i := 250) rfl)
theorem kw_251 : (.instanceMethod y_Rd_takeEntries : Cond) ∈ BW := bw0 (List.mem_of_getElem? (l := BW0) (i := 251) rfl)
theorem kw_252 : (.selects R_Rd y_Rd_takeEntries y_Rd_takeEntries : Cond) ∈ BW := bw0 (List.mem_of_getElem? (l := BW0) (i := 252) rfl)
theorem kw_253 : (.methodLink "PictureFile$Reader" 127 y_Rd_hasNeededTags : Cond) ∈ BW := bw0 (List.mem_of_getElem? (l := BW0) (i := 253) rfl)
theorem kw_254 : (.code y_Rd_hasNeededTags b_Rd_hasNeededTags 2 (some .boolean) : Cond) ∈ BW := bw0 (List.mem_of_getElem? (l := BW0) (i := 254) rfl)
theorem kw_255 : (.instanceMethod y_Rd_hasNeededTags : Cond) ∈ BW := bw0 (List.mem_of_getElem? (l := BW0) (i := 255) rfl)
theorem kw_256 : (.selects R_Rd y_Rd_hasNeededTags y_Rd_hasNeededTags : Cond) ∈ BW := bw0 (List.mem_of_getElem? (l := BW0) (i := 256) rfl)
theorem kw_257 : (.methodLink "PictureFile$Reader" 130 y_Rd_takeNumbers : Cond) ∈ BW := bw0 (List.mem_of_getElem? (l := BW0) (i := 257) rfl)
theorem kw_258 : (.code y_Rd_takeNumbers b_Rd_takeNumbers 8 (some .boolean) : Cond) ∈ BW := bw0 (List.mem_of_getElem? (l := BW0) (i := 258) rfl)
theorem kw_259 : (.instanceMethod y_Rd_takeNumbers : Cond) ∈ BW := bw0 (List.mem_of_getElem? (l := BW0) (i := 259) rfl)
theorem kw_260 : (.selects R_Rd y_Rd_takeNumbers y_Rd_takeNumbers : Cond) ∈ BW := bw0 (List.mem_of_getElem? (l := BW0) (i := 260) rfl)
theorem kw_261 : (.methodLink "PictureFile$Reader" 133 y_Rd_takeStrips : Cond) ∈ BW := bw0 (List.mem_of_getElem? (l := BW0) (i := 261) rfl)
theorem kw_262 : (.code y_Rd_takeStrips b_Rd_takeStrips 8 (some .boolean) : Cond) ∈ BW := bw0 (List.mem_of_getElem? (l := BW0) (i := 262) rfl)
theorem kw_263 : (.instanceMethod y_Rd_takeStrips : Cond) ∈ BW := bw0 (List.mem_of_getElem? (l := BW0) (i := 263) rfl)
theorem kw_264 : (.selects R_Rd y_Rd_takeStrips y_Rd_takeStrips : Cond) ∈ BW := bw0 (List.mem_of_getElem? (l := BW0) (i := 264) rfl)
theorem kw_265 : (.methodLink "PictureFile$Reader" 71 y_Rd_forgetAll : Cond) ∈ BW := bw0 (List.mem_of_getElem? (l := BW0) (i := 265) rfl)
theorem kw_266 : (.code y_Rd_forgetAll b_Rd_forgetAll 1 none : Cond) ∈ BW := bw0 (List.mem_of_getElem? (l := BW0) (i := 266) rfl)
theorem kw_267 : (.instanceMethod y_Rd_forgetAll : Cond) ∈ BW := bw0 (List.mem_of_getElem? (l := BW0) (i := 267) rfl)
theorem kw_268 : (.selects R_Rd y_Rd_forgetAll y_Rd_forgetAll : Cond) ∈ BW := bw0 (List.mem_of_getElem? (l := BW0) (i := 268) rfl)
theorem kw_269 : (.methodLink "PictureFile$Reader" 74 y_Rd_takeHead : Cond) ∈ BW := bw0 (List.mem_of_getElem? (l := BW0) (i := 269) rfl)
theorem kw_270 : (.code y_Rd_takeHead b_Rd_takeHead 2 (some .boolean) : Cond) ∈ BW := bw0 (List.mem_of_getElem? (l := BW0) (i := 270) rfl)
theorem kw_271 : (.instanceMethod y_Rd_takeHead : Cond) ∈ BW := bw0 (List.mem_of_getElem? (l := BW0) (i := 271) rfl)
theorem kw_272 : (.selects R_Rd y_Rd_takeHead y_Rd_takeHead : Cond) ∈ BW := bw0 (List.mem_of_getElem? (l := BW0) (i := 272) rfl)
theorem kw_273 : (.methodLink "PictureFile$Reader" 92 y_Rd_takePage : Cond) ∈ BW := bw0 (List.mem_of_getElem? (l := BW0) (i := 273) rfl)
theorem kw_274 : (.code y_Rd_takePage b_Rd_takePage 3 (some .boolean) : Cond) ∈ BW := bw0 (List.mem_of_getElem? (l := BW0) (i := 274) rfl)
theorem kw_275 : (.instanceMethod y_Rd_takePage : Cond) ∈ BW := bw0 (List.mem_of_getElem? (l := BW0) (i := 275) rfl)
theorem kw_276 : (.selects R_Rd y_Rd_takePage y_Rd_takePage : Cond) ∈ BW := bw0 (List.mem_of_getElem? (l := BW0) (i := 276) rfl)
theorem kw_277 : (.fieldLink "PictureFile" 21 "PictureFile" "maker" "LPictureFile$Maker;" : Cond) ∈ BW := bw0 (List.mem_of_getElem? (l := BW0) (i := 277) rfl)
theorem kw_278 : (.fieldLinkNest "PictureFile" 32 "PictureFile$Maker" "making" "Z" "PictureFile" : Cond) ∈ BW := bw0 (List.mem_of_getElem? (l := BW0) (i := 278) rfl)
theorem kw_279 : (.methodLink "PictureFile" 36 y_PF_isPartLength : Cond) ∈ BW := bw0 (List.mem_of_getElem? (l := BW0) (i := 279) rfl)
theorem kw_280 : (.code y_PF_isPartLength b_PF_isPartLength 1 (some .boolean) : Cond) ∈ BW := bw0 (List.mem_of_getElem? (l := BW0) (i := 280) rfl)
theorem kw_281 : (.static y_PF_isPartLength : Cond) ∈ BW := bw0 (List.mem_of_getElem? (l := BW0) (i := 281) rfl)
theorem kw_282 : (.fieldLink "PictureFile" 10 "PictureFile" "file" "LPictureFile$Row;" : Cond) ∈ BW := bw0 (List.mem_of_getElem? (l := BW0) (i := 282) rfl)
theorem kw_283 : (.fieldLinkNest "PictureFile" 40 "PictureFile$Row" "size" "I" "PictureFile" : Cond) ∈ BW := bw0 (List.mem_of_getElem? (l := BW0) (i := 283) rfl)
theorem kw_284 : (.constant "PictureFile" 44 65536 : Cond) ∈ BW := bw0 (List.mem_of_getElem? (l := BW0) (i := 284) rfl)
theorem kw_285 : (.methodLinkNest "PictureFile" 45 y_Row_append "PictureFile" : Cond) ∈ BW := bw0 (List.mem_of_getElem? (l := BW0) (i := 285) rfl)
theorem kw_286 : (.methodLinkNest "PictureFile" 49 y_Row_replace "PictureFile" : Cond) ∈ BW := bw0 (List.mem_of_getElem? (l := BW0) (i := 286) rfl)
theorem kw_287 : (.methodLinkNest "PictureFile" 55 y_Row_number "PictureFile" : Cond) ∈ BW := bw0 (List.mem_of_getElem? (l := BW0) (i := 287) rfl)
theorem kw_288 : (.methodLinkNest "PictureFile" 97 y_Mk_stripsToCome "PictureFile" : Cond) ∈ BW := bw0 (List.mem_of_getElem? (l := BW0) (i := 288) rfl)
theorem kw_289 : (.code y_Mk_stripsToCome b_Mk_stripsToCome 1 (some .int) : Cond) ∈ BW := bw0 (List.mem_of_getElem? (l := BW0) (i := 289) rfl)
theorem kw_290 : (.instanceMethod y_Mk_stripsToCome : Cond) ∈ BW := bw0 (List.mem_of_getElem? (l := BW0) (i := 290) rfl)
theorem kw_291 : (.selects R_Mk y_Mk_stripsToCome y_Mk_stripsToCome : Cond) ∈ BW := bw0 (List.mem_of_getElem? (l := BW0) (i := 291) rfl)
theorem kw_292 : (.methodLinkNest "PictureFile" 101 y_Mk_hasRoomFor "PictureFile" : Cond) ∈ BW := bw0 (List.mem_of_getElem? (l := BW0) (i := 292) rfl)
theorem kw_293 : (.code y_Mk_hasRoomFor b_Mk_hasRoomFor 3 (some .boolean) : Cond) ∈ BW := bw0 (List.mem_of_getElem? (l := BW0) (i := 293) rfl)
theorem kw_294 : (.instanceMethod y_Mk_hasRoomFor : Cond) ∈ BW := bw0 (List.mem_of_getElem? (l := BW0) (i := 294) rfl)
theorem kw_295 : (.selects R_Mk y_Mk_hasRoomFor y_Mk_hasRoomFor : Cond) ∈ BW := bw0 (List.mem_of_getElem? (l := BW0) (i := 295) rfl)
theorem kw_296 : (.methodLinkNest "PictureFile" 104 y_Mk_addToStrip "PictureFile" : Cond) ∈ BW := bw0 (List.mem_of_getElem? (l := BW0) (i := 296) rfl)
theorem kw_297 : (.code y_Mk_addToStrip b_Mk_addToStrip 4 none : Cond) ∈ BW := bw0 (List.mem_of_getElem? (l := BW0) (i := 297) rfl)
theorem kw_298 : (.instanceMethod y_Mk_addToStrip : Cond) ∈ BW := bw0 (List.mem_of_getElem? (l := BW0) (i := 298) rfl)
theorem kw_299 : (.selects R_Mk y_Mk_addToStrip y_Mk_addToStrip : Cond) ∈ BW := bw0 (List.mem_of_getElem? (l := BW0) (i := 299) rfl)
theorem kw_300 : (.fieldLink "PictureFile" 28 "PictureFile" "reader" "LPictureFile$Reader;" : Cond) ∈ BW := bw0 (List.mem_of_getElem? (l := BW0) (i := 300) rfl)
theorem kw_301 : (.methodLinkNest "PictureFile" 132 y_Rd_faultNumber "PictureFile" : Cond) ∈ BW := bw0 (List.mem_of_getElem? (l := BW0) (i := 301) rfl)
theorem kw_302 : (.code y_Rd_faultNumber b_Rd_faultNumber 2 (some .int) : Cond) ∈ BW := bw0 (List.mem_of_getElem? (l := BW0) (i := 302) rfl)
theorem kw_303 : (.instanceMethod y_Rd_faultNumber : Cond) ∈ BW := bw0 (List.mem_of_getElem? (l := BW0) (i := 303) rfl)
theorem kw_304 : (.selects R_Rd y_Rd_faultNumber y_Rd_faultNumber : Cond) ∈ BW := bw0 (List.mem_of_getElem? (l := BW0) (i := 304) rfl)
theorem kw_305 : (.fieldLinkNest "PictureFile" 73 "PictureFile$Maker" "onPage" "Z" "PictureFile" : Cond) ∈ BW := bw0 (List.mem_of_getElem? (l := BW0) (i := 305) rfl)
theorem kw_306 : (.fieldLinkNest "PictureFile" 76 "PictureFile$Maker" "pages" "I" "PictureFile" : Cond) ∈ BW := bw0 (List.mem_of_getElem? (l := BW0) (i := 306) rfl)
theorem kw_307 : (.fieldLinkNest "PictureFile" 174 "PictureFile$Maker" "stripBytes" "I" "PictureFile" : Cond) ∈ BW := bw0 (List.mem_of_getElem? (l := BW0) (i := 307) rfl)
theorem kw_308 : (.fieldLinkNest "PictureFile" 131 "PictureFile$Reader" "pages" "I" "PictureFile" : Cond) ∈ BW := bw0 (List.mem_of_getElem? (l := BW0) (i := 308) rfl)
theorem kw_309 : (.fieldLinkNest "PictureFile" 177 "PictureFile$Reader" "order" "I" "PictureFile" : Cond) ∈ BW := bw0 (List.mem_of_getElem? (l := BW0) (i := 309) rfl)
theorem kw_310 : (.methodLink "PictureFile$Row" 3 objectInit : Cond) ∈ BW := bw0 (List.mem_of_getElem? (l := BW0) (i := 310) rfl)
theorem kw_311 : (.instanceMethod objectInit : Cond) ∈ BW := bw0 (List.mem_of_getElem? (l := BW0) (i := 311) rfl)
theorem kw_312 : (.code objectInit ⟨#[0xb1]⟩ 1 none : Cond) ∈ BW := bw0 (List.mem_of_getElem? (l := BW0) (i := 312) rfl)
theorem kw_313 : (.arrayClass .byte : Cond) ∈ BW := bw0 (List.mem_of_getElem? (l := BW0) (i := 313) rfl)
theorem kw_314 : (.methodLink "PictureFile$Strips" 1 objectInit : Cond) ∈ BW := bw0 (List.mem_of_getElem? (l := BW0) (i := 314) rfl)
theorem kw_315 : (.arrayClass .int : Cond) ∈ BW := bw0 (List.mem_of_getElem? (l := BW0) (i := 315) rfl)
theorem kw_316 : (.methodLink "PictureFile$Maker" 5 objectInit : Cond) ∈ BW := bw0 (List.mem_of_getElem? (l := BW0) (i := 316) rfl)
theorem kw_317 : (.classLink "PictureFile$Maker" 11 "PictureFile$Strips" : Cond) ∈ BW := bw0 (List.mem_of_getElem? (l := BW0) (i := 317) rfl)
theorem kw_318 : (.instantiable "PictureFile$Strips" 3 : Cond) ∈ BW := bw0 (List.mem_of_getElem? (l := BW0) (i := 318) rfl)
theorem kw_319 : (.methodLinkNest "PictureFile$Maker" 13 y_St_init "PictureFile" : Cond) ∈ BW := bw0 (List.mem_of_getElem? (l := BW0) (i := 319) rfl)
theorem kw_320 : (.code y_St_init b_St_init 2 none : Cond) ∈ BW := bw0 (List.mem_of_getElem? (l := BW0) (i := 320) rfl)
theorem kw_321 : (.instanceMethod y_St_init : Cond) ∈ BW := bw0 (List.mem_of_getElem? (l := BW0) (i := 321) rfl)
theorem kw_322 : (.methodLink "PictureFile$PageNumbers" 3 objectInit : Cond) ∈ BW := bw0 (List.mem_of_getElem? (l := BW0) (i := 322) rfl)
theorem kw_323 : (.arrayClass .long : Cond) ∈ BW := bw0 (List.mem_of_getElem? (l := BW0) (i := 323) rfl)
theorem kw_324 : (.methodLink "PictureFile$Entries" 3 objectInit : Cond) ∈ BW := bw0 (List.mem_of_getElem? (l := BW0) (i := 324) rfl)
theorem kw_325 : (.methodLink "PictureFile$Reader" 3 objectInit : Cond) ∈ BW := bw0 (List.mem_of_getElem? (l := BW0) (i := 325) rfl)
theorem kw_326 : (.classLink "PictureFile$Reader" 9 "PictureFile$PageNumbers" : Cond) ∈ BW := bw0 (List.mem_of_getElem? (l := BW0) (i := 326) rfl)
theorem kw_327 : (.instantiable "PictureFile$PageNumbers" 1 : Cond) ∈ BW := bw0 (List.mem_of_getElem? (l := BW0) (i := 327) rfl)
theorem kw_328 : (.methodLinkNest "PictureFile$Reader" 11 y_Pn_init "PictureFile" : Cond) ∈ BW := bw0 (List.mem_of_getElem? (l := BW0) (i := 328) rfl)
theorem kw_329 : (.code y_Pn_init b_Pn_init 1 none : Cond) ∈ BW := bw0 (List.mem_of_getElem? (l := BW0) (i := 329) rfl)
theorem kw_330 : (.instanceMethod y_Pn_init : Cond) ∈ BW := bw0 (List.mem_of_getElem? (l := BW0) (i := 330) rfl)
theorem kw_331 : (.classLink "PictureFile$Reader" 18 "PictureFile$Strips" : Cond) ∈ BW := bw0 (List.mem_of_getElem? (l := BW0) (i := 331) rfl)
theorem kw_332 : (.methodLinkNest "PictureFile$Reader" 20 y_St_init "PictureFile" : Cond) ∈ BW := bw0 (List.mem_of_getElem? (l := BW0) (i := 332) rfl)
theorem kw_333 : (.classLink "PictureFile$Reader" 35 "PictureFile$Entries" : Cond) ∈ BW := bw0 (List.mem_of_getElem? (l := BW0) (i := 333) rfl)
theorem kw_334 : (.instantiable "PictureFile$Entries" 4 : Cond) ∈ BW := bw0 (List.mem_of_getElem? (l := BW0) (i := 334) rfl)
theorem kw_335 : (.methodLinkNest "PictureFile$Reader" 37 y_En_init "PictureFile" : Cond) ∈ BW := bw0 (List.mem_of_getElem? (l := BW0) (i := 335) rfl)
theorem kw_336 : (.code y_En_init b_En_init 2 none : Cond) ∈ BW := bw0 (List.mem_of_getElem? (l := BW0) (i := 336) rfl)
theorem kw_337 : (.instanceMethod y_En_init : Cond) ∈ BW := bw0 (List.mem_of_getElem? (l := BW0) (i := 337) rfl)
theorem kw_338 : (.methodLink "PictureFile" 1 objectInit : Cond) ∈ BW := bw0 (List.mem_of_getElem? (l := BW0) (i := 338) rfl)
theorem kw_339 : (.classLink "PictureFile" 7 "PictureFile$Row" : Cond) ∈ BW := bw0 (List.mem_of_getElem? (l := BW0) (i := 339) rfl)
theorem kw_340 : (.instantiable "PictureFile$Row" 2 : Cond) ∈ BW := bw0 (List.mem_of_getElem? (l := BW0) (i := 340) rfl)
theorem kw_341 : (.methodLinkNest "PictureFile" 9 y_Row_init "PictureFile" : Cond) ∈ BW := bw0 (List.mem_of_getElem? (l := BW0) (i := 341) rfl)
theorem kw_342 : (.code y_Row_init b_Row_init 1 none : Cond) ∈ BW := bw0 (List.mem_of_getElem? (l := BW0) (i := 342) rfl)
theorem kw_343 : (.instanceMethod y_Row_init : Cond) ∈ BW := bw0 (List.mem_of_getElem? (l := BW0) (i := 343) rfl)
theorem kw_344 : (.classLink "PictureFile" 16 "PictureFile$Maker" : Cond) ∈ BW := bw0 (List.mem_of_getElem? (l := BW0) (i := 344) rfl)
theorem kw_345 : (.instantiable "PictureFile$Maker" 14 : Cond) ∈ BW := bw0 (List.mem_of_getElem? (l := BW0) (i := 345) rfl)
theorem kw_346 : (.methodLinkNest "PictureFile" 18 y_Mk_init "PictureFile" : Cond) ∈ BW := bw0 (List.mem_of_getElem? (l := BW0) (i := 346) rfl)
theorem kw_347 : (.code y_Mk_init b_Mk_init 2 none : Cond) ∈ BW := bw0 (List.mem_of_getElem? (l := BW0) (i := 347) rfl)
theorem kw_348 : (.instanceMethod y_Mk_init : Cond) ∈ BW := bw0 (List.mem_of_getElem? (l := BW0) (i := 348) rfl)
theorem kw_349 : (.classLink "PictureFile" 25 "PictureFile$Reader" : Cond) ∈ BW := bw0 (List.mem_of_getElem? (l := BW0) (i := 349) rfl)
theorem kw_350 : (.instantiable "PictureFile$Reader" 12 : Cond) ∈ BW := bw0 (List.mem_of_getElem? (l := BW0) (i := 350) rfl)
theorem kw_351 : (.methodLinkNest "PictureFile" 27 y_Rd_init "PictureFile" : Cond) ∈ BW := bw0 (List.mem_of_getElem? (l := BW0) (i := 351) rfl)
theorem kw_352 : (.code y_Rd_init b_Rd_init 2 none : Cond) ∈ BW := bw0 (List.mem_of_getElem? (l := BW0) (i := 352) rfl)
theorem kw_353 : (.instanceMethod y_Rd_init : Cond) ∈ BW := bw0 (List.mem_of_getElem? (l := BW0) (i := 353) rfl)
theorem kw_354 : (.methodLink "PictureFile" 59 y_PF_isOrder : Cond) ∈ BW := bw0 (List.mem_of_getElem? (l := BW0) (i := 354) rfl)
theorem kw_355 : (.classLink "PictureFile" 62 "java/lang/IllegalArgumentException" : Cond) ∈ BW := bw0 (List.mem_of_getElem? (l := BW0) (i := 355) rfl)
theorem kw_356 : (.initialized "java/lang/IllegalArgumentException" : Cond) ∈ BW := bw0 (List.mem_of_getElem? (l := BW0) (i := 356) rfl)
theorem kw_357 : (.methodLinkNest "PictureFile" 69 y_Mk_startFile "PictureFile" : Cond) ∈ BW := bw0 (List.mem_of_getElem? (l := BW0) (i := 357) rfl)
theorem kw_358 : (.code y_Mk_startFile b_Mk_startFile 2 none : Cond) ∈ BW := bw0 (List.mem_of_getElem? (l := BW0) (i := 358) rfl)
theorem kw_359 : (.instanceMethod y_Mk_startFile : Cond) ∈ BW := bw0 (List.mem_of_getElem? (l := BW0) (i := 359) rfl)
theorem kw_360 : (.selects R_Mk y_Mk_startFile y_Mk_startFile : Cond) ∈ BW := bw0 (List.mem_of_getElem? (l := BW0) (i := 360) rfl)
theorem kw_361 : (.methodLink "PictureFile" 84 y_PF_isSheet : Cond) ∈ BW := bw0 (List.mem_of_getElem? (l := BW0) (i := 361) rfl)
theorem kw_362 : (.code y_PF_isSheet b_PF_isSheet 3 (some .boolean) : Cond) ∈ BW := bw0 (List.mem_of_getElem? (l := BW0) (i := 362) rfl)
theorem kw_363 : (.static y_PF_isSheet : Cond) ∈ BW := bw0 (List.mem_of_getElem? (l := BW0) (i := 363) rfl)
theorem kw_364 : (.methodLink "PictureFile" 88 y_PF_isFineness : Cond) ∈ BW := bw0 (List.mem_of_getElem? (l := BW0) (i := 364) rfl)
theorem kw_365 : (.code y_PF_isFineness b_PF_isFineness 1 (some .boolean) : Cond) ∈ BW := bw0 (List.mem_of_getElem? (l := BW0) (i := 365) rfl)
theorem kw_366 : (.static y_PF_isFineness : Cond) ∈ BW := bw0 (List.mem_of_getElem? (l := BW0) (i := 366) rfl)
theorem kw_367 : (.classLink "PictureFile" 79 "java/lang/IllegalStateException" : Cond) ∈ BW := bw0 (List.mem_of_getElem? (l := BW0) (i := 367) rfl)
theorem kw_368 : (.initialized "java/lang/IllegalStateException" : Cond) ∈ BW := bw0 (List.mem_of_getElem? (l := BW0) (i := 368) rfl)
theorem kw_369 : (.methodLinkNest "PictureFile" 93 y_Mk_startPage "PictureFile" : Cond) ∈ BW := bw0 (List.mem_of_getElem? (l := BW0) (i := 369) rfl)
theorem kw_370 : (.code y_Mk_startPage b_Mk_startPage 6 none : Cond) ∈ BW := bw0 (List.mem_of_getElem? (l := BW0) (i := 370) rfl)
theorem kw_371 : (.instanceMethod y_Mk_startPage : Cond) ∈ BW := bw0 (List.mem_of_getElem? (l := BW0) (i := 371) rfl)
theorem kw_372 : (.selects R_Mk y_Mk_startPage y_Mk_startPage : Cond) ∈ BW := bw0 (List.mem_of_getElem? (l := BW0) (i := 372) rfl)
theorem kw_373 : (.methodLinkNest "PictureFile" 110 y_Mk_finishStrip "PictureFile" : Cond) ∈ BW := bw0 (List.mem_of_getElem? (l := BW0) (i := 373) rfl)
theorem kw_374 : (.code y_Mk_finishStrip b_Mk_finishStrip 1 none : Cond) ∈ BW := bw0 (List.mem_of_getElem? (l := BW0) (i := 374) rfl)
theorem kw_375 : (.instanceMethod y_Mk_finishStrip : Cond) ∈ BW := bw0 (List.mem_of_getElem? (l := BW0) (i := 375) rfl)
theorem kw_376 : (.selects R_Mk y_Mk_finishStrip y_Mk_finishStrip : Cond) ∈ BW := bw0 (List.mem_of_getElem? (l := BW0) (i := 376) rfl)
theorem kw_377 : (.methodLinkNest "PictureFile" 113 y_Mk_sizeWithPage "PictureFile" : Cond) ∈ BW := bw0 (List.mem_of_getElem? (l := BW0) (i := 377) rfl)
theorem kw_378 : (.code y_Mk_sizeWithPage b_Mk_sizeWithPage 2 (some .int) : Cond) ∈ BW := bw0 (List.mem_of_getElem? (l := BW0) (i := 378) rfl)
theorem kw_379 : (.instanceMethod y_Mk_sizeWithPage : Cond) ∈ BW := bw0 (List.mem_of_getElem? (l := BW0) (i := 379) rfl)
theorem kw_380 : (.selects R_Mk y_Mk_sizeWithPage y_Mk_sizeWithPage : Cond) ∈ BW := bw0 (List.mem_of_getElem? (l := BW0) (i := 380) rfl)
theorem kw_381 : (.methodLinkNest "PictureFile" 118 y_Mk_finishPage "PictureFile" : Cond) ∈ BW := bw0 (List.mem_of_getElem? (l := BW0) (i := 381) rfl)
theorem kw_382 : (.code y_Mk_finishPage b_Mk_finishPage 4 none : Cond) ∈ BW := bw0 (List.mem_of_getElem? (l := BW0) (i := 382) rfl)
theorem kw_383 : (.instanceMethod y_Mk_finishPage : Cond) ∈ BW := bw0 (List.mem_of_getElem? (l := BW0) (i := 383) rfl)
theorem kw_384 : (.selects R_Mk y_Mk_finishPage y_Mk_finishPage : Cond) ∈ BW := bw0 (List.mem_of_getElem? (l := BW0) (i := 384) rfl)
theorem kw_385 : (.methodLinkNest "PictureFile" 125 y_Rd_goThrough "PictureFile" : Cond) ∈ BW := bw0 (List.mem_of_getElem? (l := BW0) (i := 385) rfl)
theorem kw_386 : (.code y_Rd_goThrough b_Rd_goThrough 4 none : Cond) ∈ BW := bw0 (List.mem_of_getElem? (l := BW0) (i := 386) rfl)
theorem kw_387 : (.instanceMethod y_Rd_goThrough : Cond) ∈ BW := bw0 (List.mem_of_getElem? (l := BW0) (i := 387) rfl)
theorem kw_388 : (.selects R_Rd y_Rd_goThrough y_Rd_goThrough : Cond) ∈ BW := bw0 (List.mem_of_getElem? (l := BW0) (i := 388) rfl)
theorem kw_389 : (.fieldLinkNest "PictureFile" 128 "PictureFile$Reader" "faultKind" "I" "PictureFile" : Cond) ∈ BW := bw0 (List.mem_of_getElem? (l := BW0) (i := 389) rfl)
theorem kw_390 : (.methodLinkNest "PictureFile" 136 y_Rd_hasPage "PictureFile" : Cond) ∈ BW := bw0 (List.mem_of_getElem? (l := BW0) (i := 390) rfl)
theorem kw_391 : (.classLink "PictureFile" 141 "java/lang/IndexOutOfBoundsException" : Cond) ∈ BW := bw0 (List.mem_of_getElem? (l := BW0) (i := 391) rfl)
theorem kw_392 : (.initialized "java/lang/IndexOutOfBoundsException" : Cond) ∈ BW := bw0 (List.mem_of_getElem? (l := BW0) (i := 392) rfl)
theorem kw_393 : (.fieldLinkNest "PictureFile" 146 "PictureFile$Reader" "numbers" "LPictureFile$PageNumbers;" "PictureFile" : Cond) ∈ BW := bw0 (List.mem_of_getElem? (l := BW0) (i := 393) rfl)
theorem kw_394 : (.methodLinkNest "PictureFile" 150 y_Pn_get "PictureFile" : Cond) ∈ BW := bw0 (List.mem_of_getElem? (l := BW0) (i := 394) rfl)
theorem kw_395 : (.methodLinkNest "PictureFile" 154 y_Rd_hasStrip "PictureFile" : Cond) ∈ BW := bw0 (List.mem_of_getElem? (l := BW0) (i := 395) rfl)
theorem kw_396 : (.code y_Rd_hasStrip b_Rd_hasStrip 3 (some .boolean) : Cond) ∈ BW := bw0 (List.mem_of_getElem? (l := BW0) (i := 396) rfl)
theorem kw_397 : (.instanceMethod y_Rd_hasStrip : Cond) ∈ BW := bw0 (List.mem_of_getElem? (l := BW0) (i := 397) rfl)
theorem kw_398 : (.selects R_Rd y_Rd_hasStrip y_Rd_hasStrip : Cond) ∈ BW := bw0 (List.mem_of_getElem? (l := BW0) (i := 398) rfl)
theorem kw_399 : (.methodLinkNest "PictureFile" 162 y_Rd_ofStrip "PictureFile" : Cond) ∈ BW := bw0 (List.mem_of_getElem? (l := BW0) (i := 399) rfl)
theorem kw_400 : (.code y_Rd_ofStrip b_Rd_ofStrip 4 (some .int) : Cond) ∈ BW := bw0 (List.mem_of_getElem? (l := BW0) (i := 400) rfl)
theorem kw_401 : (.instanceMethod y_Rd_ofStrip : Cond) ∈ BW := bw0 (List.mem_of_getElem? (l := BW0) (i := 401) rfl)
theorem kw_402 : (.selects R_Rd y_Rd_ofStrip y_Rd_ofStrip : Cond) ∈ BW := bw0 (List.mem_of_getElem? (l := BW0) (i := 402) rfl)
theorem kw_403 : (.methodLinkNest "PictureFile" 170 y_Row_at "PictureFile" : Cond) ∈ BW := bw0 (List.mem_of_getElem? (l := BW0) (i := 403) rfl)
theorem kw_404 : (.lays "PictureFile$Row" "PictureFile$Row" "cells" "[B" : Cond) ∈ BW := bw0 (List.mem_of_getElem? (l := BW0) (i := 404) rfl)
theorem kw_405 : (.lays "PictureFile$Row" "PictureFile$Row" "size" "I" : Cond) ∈ BW := bw0 (List.mem_of_getElem? (l := BW0) (i := 405) rfl)
theorem kw_406 : (.laysFinal "PictureFile$Strips" "PictureFile$Strips" "most" "I" : Cond) ∈ BW := bw0 (List.mem_of_getElem? (l := BW0) (i := 406) rfl)
theorem kw_407 : (.lays "PictureFile$Strips" "PictureFile$Strips" "cells" "[I" : Cond) ∈ BW := bw0 (List.mem_of_getElem? (l := BW0) (i := 407) rfl)
theorem kw_408 : (.lays "PictureFile$Strips" "PictureFile$Strips" "count" "I" : Cond) ∈ BW := bw0 (List.mem_of_getElem? (l := BW0) (i := 408) rfl)
theorem kw_409 : (.laysFinal "PictureFile$Maker" "PictureFile$Maker" "file" "LPictureFile$Row;" : Cond) ∈ BW := bw0 (List.mem_of_getElem? (l := BW0) (i := 409) rfl)
theorem kw_410 : (.laysFinal "PictureFile$Maker" "PictureFile$Maker" "strips" "LPictureFile$Strips;" : Cond) ∈ BW := bw0 (List.mem_of_getElem? (l := BW0) (i := 410) rfl)
theorem kw_411 : (.lays "PictureFile$Maker" "PictureFile$Maker" "making" "Z" : Cond) ∈ BW := bw0 (List.mem_of_getElem? (l := BW0) (i := 411) rfl)
theorem kw_412 : (.lays "PictureFile$Maker" "PictureFile$Maker" "onPage" "Z" : Cond) ∈ BW := bw0 (List.mem_of_getElem? (l := BW0) (i := 412) rfl)
theorem kw_413 : (.lays "PictureFile$Maker" "PictureFile$Maker" "order" "I" : Cond) ∈ BW := bw0 (List.mem_of_getElem? (l := BW0) (i := 413) rfl)
theorem kw_414 : (.lays "PictureFile$Maker" "PictureFile$Maker" "pages" "I" : Cond) ∈ BW := bw0 (List.mem_of_getElem? (l := BW0) (i := 414) rfl)
theorem kw_415 : (.lays "PictureFile$Maker" "PictureFile$Maker" "link" "I" : Cond) ∈ BW := bw0 (List.mem_of_getElem? (l := BW0) (i := 415) rfl)
theorem kw_416 : (.lays "PictureFile$Maker" "PictureFile$Maker" "width" "I" : Cond) ∈ BW := bw0 (List.mem_of_getElem? (l := BW0) (i := 416) rfl)
theorem kw_417 : (.lays "PictureFile$Maker" "PictureFile$Maker" "height" "I" : Cond) ∈ BW := bw0 (List.mem_of_getElem? (l := BW0) (i := 417) rfl)
theorem kw_418 : (.lays "PictureFile$Maker" "PictureFile$Maker" "rows" "I" : Cond) ∈ BW := bw0 (List.mem_of_getElem? (l := BW0) (i := 418) rfl)
theorem kw_419 : (.lays "PictureFile$Maker" "PictureFile$Maker" "across" "I" : Cond) ∈ BW := bw0 (List.mem_of_getElem? (l := BW0) (i := 419) rfl)
theorem kw_420 : (.lays "PictureFile$Maker" "PictureFile$Maker" "down" "I" : Cond) ∈ BW := bw0 (List.mem_of_getElem? (l := BW0) (i := 420) rfl)
theorem kw_421 : (.lays "PictureFile$Maker" "PictureFile$Maker" "stripsDue" "I" : Cond) ∈ BW := bw0 (List.mem_of_getElem? (l := BW0) (i := 421) rfl)
theorem kw_422 : (.lays "PictureFile$Maker" "PictureFile$Maker" "stripBytes" "I" : Cond) ∈ BW := bw0 (List.mem_of_getElem? (l := BW0) (i := 422) rfl)
theorem kw_423 : (.laysFinal "PictureFile$PageNumbers" "PictureFile$PageNumbers" "cells" "[J" : Cond) ∈ BW := bw0 (List.mem_of_getElem? (l := BW0) (i := 423) rfl)
theorem kw_424 : (.laysFinal "PictureFile$Entries" "PictureFile$Entries" "file" "LPictureFile$Row;" : Cond) ∈ BW := bw0 (List.mem_of_getElem? (l := BW0) (i := 424) rfl)
theorem kw_425 : (.laysFinal "PictureFile$Entries" "PictureFile$Entries" "types" "[I" : Cond) ∈ BW := bw0 (List.mem_of_getElem? (l := BW0) (i := 425) rfl)
theorem kw_426 : (.laysFinal "PictureFile$Entries" "PictureFile$Entries" "counts" "[I" : Cond) ∈ BW := bw0 (List.mem_of_getElem? (l := BW0) (i := 426) rfl)
theorem kw_427 : (.laysFinal "PictureFile$Entries" "PictureFile$Entries" "places" "[I" : Cond) ∈ BW := bw0 (List.mem_of_getElem? (l := BW0) (i := 427) rfl)
theorem kw_428 : (.laysFinal "PictureFile$Reader" "PictureFile$Reader" "file" "LPictureFile$Row;" : Cond) ∈ BW := bw0 (List.mem_of_getElem? (l := BW0) (i := 428) rfl)
theorem kw_429 : (.laysFinal "PictureFile$Reader" "PictureFile$Reader" "entries" "LPictureFile$Entries;" : Cond) ∈ BW := bw0 (List.mem_of_getElem? (l := BW0) (i := 429) rfl)
theorem kw_430 : (.laysFinal "PictureFile$Reader" "PictureFile$Reader" "numbers" "LPictureFile$PageNumbers;" : Cond) ∈ BW := bw0 (List.mem_of_getElem? (l := BW0) (i := 430) rfl)
theorem kw_431 : (.laysFinal "PictureFile$Reader" "PictureFile$Reader" "strips" "LPictureFile$Strips;" : Cond) ∈ BW := bw0 (List.mem_of_getElem? (l := BW0) (i := 431) rfl)
theorem kw_432 : (.laysFinal "PictureFile$Reader" "PictureFile$Reader" "firstStrips" "[I" : Cond) ∈ BW := bw0 (List.mem_of_getElem? (l := BW0) (i := 432) rfl)
theorem kw_433 : (.lays "PictureFile$Reader" "PictureFile$Reader" "pages" "I" : Cond) ∈ BW := bw0 (List.mem_of_getElem? (l := BW0) (i := 433) rfl)
theorem kw_434 : (.lays "PictureFile$Reader" "PictureFile$Reader" "order" "I" : Cond) ∈ BW := bw0 (List.mem_of_getElem? (l := BW0) (i := 434) rfl)
theorem kw_435 : (.lays "PictureFile$Reader" "PictureFile$Reader" "current" "I" : Cond) ∈ BW := bw0 (List.mem_of_getElem? (l := BW0) (i := 435) rfl)
theorem kw_436 : (.lays "PictureFile$Reader" "PictureFile$Reader" "faultKind" "I" : Cond) ∈ BW := bw0 (List.mem_of_getElem? (l := BW0) (i := 436) rfl)
theorem kw_437 : (.lays "PictureFile$Reader" "PictureFile$Reader" "faultPage" "I" : Cond) ∈ BW := bw0 (List.mem_of_getElem? (l := BW0) (i := 437) rfl)
theorem kw_438 : (.lays "PictureFile$Reader" "PictureFile$Reader" "faultTag" "I" : Cond) ∈ BW := bw0 (List.mem_of_getElem? (l := BW0) (i := 438) rfl)
theorem kw_439 : (.lays "PictureFile$Reader" "PictureFile$Reader" "faultStrip" "I" : Cond) ∈ BW := bw0 (List.mem_of_getElem? (l := BW0) (i := 439) rfl)
theorem kw_440 : (.laysFinal "PictureFile" "PictureFile" "file" "LPictureFile$Row;" : Cond) ∈ BW := bw0 (List.mem_of_getElem? (l := BW0) (i := 440) rfl)
theorem kw_441 : (.laysFinal "PictureFile" "PictureFile" "maker" "LPictureFile$Maker;" : Cond) ∈ BW := bw0 (List.mem_of_getElem? (l := BW0) (i := 441) rfl)
theorem kw_442 : (.laysFinal "PictureFile" "PictureFile" "reader" "LPictureFile$Reader;" : Cond) ∈ BW := bw0 (List.mem_of_getElem? (l := BW0) (i := 442) rfl)
theorem kw_443 : (.methodLink "java/util/Arrays" 304 Lib.Math.min.name : Cond) ∈ BW := bw0 (List.mem_of_getElem? (l := BW0) (i := 443) rfl)
theorem kw_444 : (.methodLink "java/util/Arrays" 150 arraycopyName : Cond) ∈ BW := bw0 (List.mem_of_getElem? (l := BW0) (i := 444) rfl)
theorem kw_445 : (.native arraycopyName : Cond) ∈ BW := bw0 (List.mem_of_getElem? (l := BW0) (i := 445) rfl)
theorem kw_446 : (.static arraycopyName : Cond) ∈ BW := bw0 (List.mem_of_getElem? (l := BW0) (i := 446) rfl)
theorem kw_447 : (.initialized "java/lang/System" : Cond) ∈ BW := bw0 (List.mem_of_getElem? (l := BW0) (i := 447) rfl)
theorem in_IAE : ∀ w ∈ AT_IAE, isR w = false → w ∈ BW := by intro w h1 h2; simp only [BW, List.mem_append]; have h3 : w ∈ AT_IAE.filter (fun w => !isR w) := List.mem_filter.mpr ⟨h1, by rw [h2]; rfl⟩; simp only [h3, true_or, or_true]
theorem rf_IAE : ∀ w ∈ AT_IAE, isR w = true → w ∈ XW := by decide +kernel
theorem at_IAE {U : State} {A : Array Value} (h : Wd BW U) (hX : SX TS U) : ∀ w ∈ AT_IAE, w.before A U = true := by
  intro w hw
  cases hr : isR w with
  | false => exact Wd.at bw_ok h (in_IAE w hw hr)
  | true => exact hX.use (rf_IAE w hw hr)
theorem in_ISE : ∀ w ∈ AT_ISE, isR w = false → w ∈ BW := by intro w h1 h2; simp only [BW, List.mem_append]; have h3 : w ∈ AT_ISE.filter (fun w => !isR w) := List.mem_filter.mpr ⟨h1, by rw [h2]; rfl⟩; simp only [h3, true_or, or_true]
theorem rf_ISE : ∀ w ∈ AT_ISE, isR w = true → w ∈ XW := by decide +kernel
theorem at_ISE {U : State} {A : Array Value} (h : Wd BW U) (hX : SX TS U) : ∀ w ∈ AT_ISE, w.before A U = true := by
  intro w hw
  cases hr : isR w with
  | false => exact Wd.at bw_ok h (in_ISE w hw hr)
  | true => exact hX.use (rf_ISE w hw hr)
theorem in_IOE : ∀ w ∈ AT_IOE, isR w = false → w ∈ BW := by intro w h1 h2; simp only [BW, List.mem_append]; have h3 : w ∈ AT_IOE.filter (fun w => !isR w) := List.mem_filter.mpr ⟨h1, by rw [h2]; rfl⟩; simp only [h3, true_or, or_true]
theorem rf_IOE : ∀ w ∈ AT_IOE, isR w = true → w ∈ XW := by decide +kernel
theorem at_IOE {U : State} {A : Array Value} (h : Wd BW U) (hX : SX TS U) : ∀ w ∈ AT_IOE, w.before A U = true := by
  intro w hw
  cases hr : isR w with
  | false => exact Wd.at bw_ok h (in_IOE w hw hr)
  | true => exact hX.use (rf_IOE w hw hr)
theorem in_Row : ∀ w ∈ u_ws R_Row F_Row 2, w ∈ BW := by intro w hw; exact bw0 (in0_Row w hw)
theorem kl_Row {U : State} {A : Array Value} (h : Wd BW U) : ∀ w ∈ u_ws R_Row F_Row 2, w.before A U = true := fun w hw => Wd.at bw_ok h (in_Row w hw)
theorem in_St : ∀ w ∈ u_ws R_St F_St 3, w ∈ BW := by intro w hw; exact bw0 (in0_St w hw)
theorem kl_St {U : State} {A : Array Value} (h : Wd BW U) : ∀ w ∈ u_ws R_St F_St 3, w.before A U = true := fun w hw => Wd.at bw_ok h (in_St w hw)
theorem in_Mk : ∀ w ∈ u_ws R_Mk F_Mk 14, w ∈ BW := by intro w hw; exact bw0 (in0_Mk w hw)
theorem kl_Mk {U : State} {A : Array Value} (h : Wd BW U) : ∀ w ∈ u_ws R_Mk F_Mk 14, w.before A U = true := fun w hw => Wd.at bw_ok h (in_Mk w hw)
theorem in_Pn : ∀ w ∈ u_ws R_Pn F_Pn 1, w ∈ BW := by intro w hw; exact bw0 (in0_Pn w hw)
theorem kl_Pn {U : State} {A : Array Value} (h : Wd BW U) : ∀ w ∈ u_ws R_Pn F_Pn 1, w.before A U = true := fun w hw => Wd.at bw_ok h (in_Pn w hw)
theorem in_En : ∀ w ∈ u_ws R_En F_En 4, w ∈ BW := by intro w hw; exact bw0 (in0_En w hw)
theorem kl_En {U : State} {A : Array Value} (h : Wd BW U) : ∀ w ∈ u_ws R_En F_En 4, w.before A U = true := fun w hw => Wd.at bw_ok h (in_En w hw)
theorem in_Rd : ∀ w ∈ u_ws R_Rd F_Rd 12, w ∈ BW := by intro w hw; exact bw0 (in0_Rd w hw)
theorem kl_Rd {U : State} {A : Array Value} (h : Wd BW U) : ∀ w ∈ u_ws R_Rd F_Rd 12, w.before A U = true := fun w hw => Wd.at bw_ok h (in_Rd w hw)
theorem in_PF : ∀ w ∈ u_ws R_PF F_PF 3, w ∈ BW := by intro w hw; exact bw0 (in0_PF w hw)
theorem kl_PF {U : State} {A : Array Value} (h : Wd BW U) : ∀ w ∈ u_ws R_PF F_PF 3, w.before A U = true := fun w hw => Wd.at bw_ok h (in_PF w hw)
theorem cal_PF_isWithin : y_PF_isWithin.cls ≠ "java/lang/invoke/MethodHandle" ∧ y_PF_isWithin.cls ≠ "java/lang/invoke/VarHandle" ∧ (parseMethodDescriptor y_PF_isWithin.desc).map (fun d => d.parameters.length) = some 3 := by decide +kernel
theorem cal_PF_isPartLength : y_PF_isPartLength.cls ≠ "java/lang/invoke/MethodHandle" ∧ y_PF_isPartLength.cls ≠ "java/lang/invoke/VarHandle" ∧ (parseMethodDescriptor y_PF_isPartLength.desc).map (fun d => d.parameters.length) = some 1 := by decide +kernel
theorem cal_PF_isOrder : y_PF_isOrder.cls ≠ "java/lang/invoke/MethodHandle" ∧ y_PF_isOrder.cls ≠ "java/lang/invoke/VarHandle" ∧ (parseMethodDescriptor y_PF_isOrder.desc).map (fun d => d.parameters.length) = some 1 := by decide +kernel
theorem cal_PF_isFineness : y_PF_isFineness.cls ≠ "java/lang/invoke/MethodHandle" ∧ y_PF_isFineness.cls ≠ "java/lang/invoke/VarHandle" ∧ (parseMethodDescriptor y_PF_isFineness.desc).map (fun d => d.parameters.length) = some 1 := by decide +kernel
theorem cal_PF_stripsOf : y_PF_stripsOf.cls ≠ "java/lang/invoke/MethodHandle" ∧ y_PF_stripsOf.cls ≠ "java/lang/invoke/VarHandle" ∧ (parseMethodDescriptor y_PF_stripsOf.desc).map (fun d => d.parameters.length) = some 2 := by decide +kernel
theorem cal_PF_isSheet : y_PF_isSheet.cls ≠ "java/lang/invoke/MethodHandle" ∧ y_PF_isSheet.cls ≠ "java/lang/invoke/VarHandle" ∧ (parseMethodDescriptor y_PF_isSheet.desc).map (fun d => d.parameters.length) = some 3 := by decide +kernel
theorem cal_Row_at : y_Row_at.cls ≠ "java/lang/invoke/MethodHandle" ∧ y_Row_at.cls ≠ "java/lang/invoke/VarHandle" ∧ (parseMethodDescriptor y_Row_at.desc).map (fun d => d.parameters.length) = some 1 := by decide +kernel
theorem cal_Row_shiftOf : y_Row_shiftOf.cls ≠ "java/lang/invoke/MethodHandle" ∧ y_Row_shiftOf.cls ≠ "java/lang/invoke/VarHandle" ∧ (parseMethodDescriptor y_Row_shiftOf.desc).map (fun d => d.parameters.length) = some 3 := by decide +kernel
theorem cal_Row_replace : y_Row_replace.cls ≠ "java/lang/invoke/MethodHandle" ∧ y_Row_replace.cls ≠ "java/lang/invoke/VarHandle" ∧ (parseMethodDescriptor y_Row_replace.desc).map (fun d => d.parameters.length) = some 2 := by decide +kernel
theorem cal_Row_add : y_Row_add.cls ≠ "java/lang/invoke/MethodHandle" ∧ y_Row_add.cls ≠ "java/lang/invoke/VarHandle" ∧ (parseMethodDescriptor y_Row_add.desc).map (fun d => d.parameters.length) = some 1 := by decide +kernel
theorem cal_Row_number : y_Row_number.cls ≠ "java/lang/invoke/MethodHandle" ∧ y_Row_number.cls ≠ "java/lang/invoke/VarHandle" ∧ (parseMethodDescriptor y_Row_number.desc).map (fun d => d.parameters.length) = some 3 := by decide +kernel
theorem cal_Row_append : y_Row_append.cls ≠ "java/lang/invoke/MethodHandle" ∧ y_Row_append.cls ≠ "java/lang/invoke/VarHandle" ∧ (parseMethodDescriptor y_Row_append.desc).map (fun d => d.parameters.length) = some 3 := by decide +kernel
theorem cal_Row_replaceLong : y_Row_replaceLong.cls ≠ "java/lang/invoke/MethodHandle" ∧ y_Row_replaceLong.cls ≠ "java/lang/invoke/VarHandle" ∧ (parseMethodDescriptor y_Row_replaceLong.desc).map (fun d => d.parameters.length) = some 3 := by decide +kernel
theorem cal_Row_makeEven : y_Row_makeEven.cls ≠ "java/lang/invoke/MethodHandle" ∧ y_Row_makeEven.cls ≠ "java/lang/invoke/VarHandle" ∧ (parseMethodDescriptor y_Row_makeEven.desc).map (fun d => d.parameters.length) = some 0 := by decide +kernel
theorem cal_St_get : y_St_get.cls ≠ "java/lang/invoke/MethodHandle" ∧ y_St_get.cls ≠ "java/lang/invoke/VarHandle" ∧ (parseMethodDescriptor y_St_get.desc).map (fun d => d.parameters.length) = some 2 := by decide +kernel
theorem cal_St_add : y_St_add.cls ≠ "java/lang/invoke/MethodHandle" ∧ y_St_add.cls ≠ "java/lang/invoke/VarHandle" ∧ (parseMethodDescriptor y_St_add.desc).map (fun d => d.parameters.length) = some 2 := by decide +kernel
theorem cal_Mk_addShort : y_Mk_addShort.cls ≠ "java/lang/invoke/MethodHandle" ∧ y_Mk_addShort.cls ≠ "java/lang/invoke/VarHandle" ∧ (parseMethodDescriptor y_Mk_addShort.desc).map (fun d => d.parameters.length) = some 1 := by decide +kernel
theorem cal_Mk_addLong : y_Mk_addLong.cls ≠ "java/lang/invoke/MethodHandle" ∧ y_Mk_addLong.cls ≠ "java/lang/invoke/VarHandle" ∧ (parseMethodDescriptor y_Mk_addLong.desc).map (fun d => d.parameters.length) = some 1 := by decide +kernel
theorem cal_Mk_leavePage : y_Mk_leavePage.cls ≠ "java/lang/invoke/MethodHandle" ∧ y_Mk_leavePage.cls ≠ "java/lang/invoke/VarHandle" ∧ (parseMethodDescriptor y_Mk_leavePage.desc).map (fun d => d.parameters.length) = some 0 := by decide +kernel
theorem cal_Mk_startFile : y_Mk_startFile.cls ≠ "java/lang/invoke/MethodHandle" ∧ y_Mk_startFile.cls ≠ "java/lang/invoke/VarHandle" ∧ (parseMethodDescriptor y_Mk_startFile.desc).map (fun d => d.parameters.length) = some 1 := by decide +kernel
theorem cal_Mk_startPage : y_Mk_startPage.cls ≠ "java/lang/invoke/MethodHandle" ∧ y_Mk_startPage.cls ≠ "java/lang/invoke/VarHandle" ∧ (parseMethodDescriptor y_Mk_startPage.desc).map (fun d => d.parameters.length) = some 5 := by decide +kernel
theorem cal_Mk_stripsToCome : y_Mk_stripsToCome.cls ≠ "java/lang/invoke/MethodHandle" ∧ y_Mk_stripsToCome.cls ≠ "java/lang/invoke/VarHandle" ∧ (parseMethodDescriptor y_Mk_stripsToCome.desc).map (fun d => d.parameters.length) = some 0 := by decide +kernel
theorem cal_Mk_hasRoomFor : y_Mk_hasRoomFor.cls ≠ "java/lang/invoke/MethodHandle" ∧ y_Mk_hasRoomFor.cls ≠ "java/lang/invoke/VarHandle" ∧ (parseMethodDescriptor y_Mk_hasRoomFor.desc).map (fun d => d.parameters.length) = some 1 := by decide +kernel
theorem cal_Mk_addToStrip : y_Mk_addToStrip.cls ≠ "java/lang/invoke/MethodHandle" ∧ y_Mk_addToStrip.cls ≠ "java/lang/invoke/VarHandle" ∧ (parseMethodDescriptor y_Mk_addToStrip.desc).map (fun d => d.parameters.length) = some 2 := by decide +kernel
theorem cal_Mk_finishStrip : y_Mk_finishStrip.cls ≠ "java/lang/invoke/MethodHandle" ∧ y_Mk_finishStrip.cls ≠ "java/lang/invoke/VarHandle" ∧ (parseMethodDescriptor y_Mk_finishStrip.desc).map (fun d => d.parameters.length) = some 0 := by decide +kernel
theorem cal_Mk_hasLists : y_Mk_hasLists.cls ≠ "java/lang/invoke/MethodHandle" ∧ y_Mk_hasLists.cls ≠ "java/lang/invoke/VarHandle" ∧ (parseMethodDescriptor y_Mk_hasLists.desc).map (fun d => d.parameters.length) = some 0 := by decide +kernel
theorem cal_Mk_sizeWithPage : y_Mk_sizeWithPage.cls ≠ "java/lang/invoke/MethodHandle" ∧ y_Mk_sizeWithPage.cls ≠ "java/lang/invoke/VarHandle" ∧ (parseMethodDescriptor y_Mk_sizeWithPage.desc).map (fun d => d.parameters.length) = some 0 := by decide +kernel
theorem cal_Mk_addList : y_Mk_addList.cls ≠ "java/lang/invoke/MethodHandle" ∧ y_Mk_addList.cls ≠ "java/lang/invoke/VarHandle" ∧ (parseMethodDescriptor y_Mk_addList.desc).map (fun d => d.parameters.length) = some 1 := by decide +kernel
theorem cal_Mk_addFineness : y_Mk_addFineness.cls ≠ "java/lang/invoke/MethodHandle" ∧ y_Mk_addFineness.cls ≠ "java/lang/invoke/VarHandle" ∧ (parseMethodDescriptor y_Mk_addFineness.desc).map (fun d => d.parameters.length) = some 1 := by decide +kernel
theorem cal_Mk_addEntry : y_Mk_addEntry.cls ≠ "java/lang/invoke/MethodHandle" ∧ y_Mk_addEntry.cls ≠ "java/lang/invoke/VarHandle" ∧ (parseMethodDescriptor y_Mk_addEntry.desc).map (fun d => d.parameters.length) = some 4 := by decide +kernel
theorem cal_Mk_addDirectory : y_Mk_addDirectory.cls ≠ "java/lang/invoke/MethodHandle" ∧ y_Mk_addDirectory.cls ≠ "java/lang/invoke/VarHandle" ∧ (parseMethodDescriptor y_Mk_addDirectory.desc).map (fun d => d.parameters.length) = some 2 := by decide +kernel
theorem cal_Mk_finishPage : y_Mk_finishPage.cls ≠ "java/lang/invoke/MethodHandle" ∧ y_Mk_finishPage.cls ≠ "java/lang/invoke/VarHandle" ∧ (parseMethodDescriptor y_Mk_finishPage.desc).map (fun d => d.parameters.length) = some 0 := by decide +kernel
theorem cal_Pn_get : y_Pn_get.cls ≠ "java/lang/invoke/MethodHandle" ∧ y_Pn_get.cls ≠ "java/lang/invoke/VarHandle" ∧ (parseMethodDescriptor y_Pn_get.desc).map (fun d => d.parameters.length) = some 2 := by decide +kernel
theorem cal_Pn_set : y_Pn_set.cls ≠ "java/lang/invoke/MethodHandle" ∧ y_Pn_set.cls ≠ "java/lang/invoke/VarHandle" ∧ (parseMethodDescriptor y_Pn_set.desc).map (fun d => d.parameters.length) = some 3 := by decide +kernel
theorem cal_Pn_wrongTag : y_Pn_wrongTag.cls ≠ "java/lang/invoke/MethodHandle" ∧ y_Pn_wrongTag.cls ≠ "java/lang/invoke/VarHandle" ∧ (parseMethodDescriptor y_Pn_wrongTag.desc).map (fun d => d.parameters.length) = some 1 := by decide +kernel
theorem cal_En_forgetAll : y_En_forgetAll.cls ≠ "java/lang/invoke/MethodHandle" ∧ y_En_forgetAll.cls ≠ "java/lang/invoke/VarHandle" ∧ (parseMethodDescriptor y_En_forgetAll.desc).map (fun d => d.parameters.length) = some 0 := by decide +kernel
theorem cal_En_widestType : y_En_widestType.cls ≠ "java/lang/invoke/MethodHandle" ∧ y_En_widestType.cls ≠ "java/lang/invoke/VarHandle" ∧ (parseMethodDescriptor y_En_widestType.desc).map (fun d => d.parameters.length) = some 1 := by decide +kernel
theorem cal_En_canHaveType : y_En_canHaveType.cls ≠ "java/lang/invoke/MethodHandle" ∧ y_En_canHaveType.cls ≠ "java/lang/invoke/VarHandle" ∧ (parseMethodDescriptor y_En_canHaveType.desc).map (fun d => d.parameters.length) = some 2 := by decide +kernel
theorem cal_En_canHaveCount : y_En_canHaveCount.cls ≠ "java/lang/invoke/MethodHandle" ∧ y_En_canHaveCount.cls ≠ "java/lang/invoke/VarHandle" ∧ (parseMethodDescriptor y_En_canHaveCount.desc).map (fun d => d.parameters.length) = some 2 := by decide +kernel
theorem cal_En_bytesOf : y_En_bytesOf.cls ≠ "java/lang/invoke/MethodHandle" ∧ y_En_bytesOf.cls ≠ "java/lang/invoke/VarHandle" ∧ (parseMethodDescriptor y_En_bytesOf.desc).map (fun d => d.parameters.length) = some 1 := by decide +kernel
theorem cal_En_keepEntry : y_En_keepEntry.cls ≠ "java/lang/invoke/MethodHandle" ∧ y_En_keepEntry.cls ≠ "java/lang/invoke/VarHandle" ∧ (parseMethodDescriptor y_En_keepEntry.desc).map (fun d => d.parameters.length) = some 4 := by decide +kernel
theorem cal_En_take : y_En_take.cls ≠ "java/lang/invoke/MethodHandle" ∧ y_En_take.cls ≠ "java/lang/invoke/VarHandle" ∧ (parseMethodDescriptor y_En_take.desc).map (fun d => d.parameters.length) = some 3 := by decide +kernel
theorem cal_En_countOf : y_En_countOf.cls ≠ "java/lang/invoke/MethodHandle" ∧ y_En_countOf.cls ≠ "java/lang/invoke/VarHandle" ∧ (parseMethodDescriptor y_En_countOf.desc).map (fun d => d.parameters.length) = some 1 := by decide +kernel
theorem cal_En_firstMissing : y_En_firstMissing.cls ≠ "java/lang/invoke/MethodHandle" ∧ y_En_firstMissing.cls ≠ "java/lang/invoke/VarHandle" ∧ (parseMethodDescriptor y_En_firstMissing.desc).map (fun d => d.parameters.length) = some 0 := by decide +kernel
theorem cal_En_number : y_En_number.cls ≠ "java/lang/invoke/MethodHandle" ∧ y_En_number.cls ≠ "java/lang/invoke/VarHandle" ∧ (parseMethodDescriptor y_En_number.desc).map (fun d => d.parameters.length) = some 4 := by decide +kernel
theorem cal_Rd_hasPage : y_Rd_hasPage.cls ≠ "java/lang/invoke/MethodHandle" ∧ y_Rd_hasPage.cls ≠ "java/lang/invoke/VarHandle" ∧ (parseMethodDescriptor y_Rd_hasPage.desc).map (fun d => d.parameters.length) = some 1 := by decide +kernel
theorem cal_Rd_hasStrip : y_Rd_hasStrip.cls ≠ "java/lang/invoke/MethodHandle" ∧ y_Rd_hasStrip.cls ≠ "java/lang/invoke/VarHandle" ∧ (parseMethodDescriptor y_Rd_hasStrip.desc).map (fun d => d.parameters.length) = some 2 := by decide +kernel
theorem cal_Rd_ofStrip : y_Rd_ofStrip.cls ≠ "java/lang/invoke/MethodHandle" ∧ y_Rd_ofStrip.cls ≠ "java/lang/invoke/VarHandle" ∧ (parseMethodDescriptor y_Rd_ofStrip.desc).map (fun d => d.parameters.length) = some 3 := by decide +kernel
theorem cal_Rd_faultNumber : y_Rd_faultNumber.cls ≠ "java/lang/invoke/MethodHandle" ∧ y_Rd_faultNumber.cls ≠ "java/lang/invoke/VarHandle" ∧ (parseMethodDescriptor y_Rd_faultNumber.desc).map (fun d => d.parameters.length) = some 1 := by decide +kernel
theorem cal_Rd_forgetAll : y_Rd_forgetAll.cls ≠ "java/lang/invoke/MethodHandle" ∧ y_Rd_forgetAll.cls ≠ "java/lang/invoke/VarHandle" ∧ (parseMethodDescriptor y_Rd_forgetAll.desc).map (fun d => d.parameters.length) = some 0 := by decide +kernel
theorem cal_Rd_refuse : y_Rd_refuse.cls ≠ "java/lang/invoke/MethodHandle" ∧ y_Rd_refuse.cls ≠ "java/lang/invoke/VarHandle" ∧ (parseMethodDescriptor y_Rd_refuse.desc).map (fun d => d.parameters.length) = some 3 := by decide +kernel
theorem cal_Rd_takeHead : y_Rd_takeHead.cls ≠ "java/lang/invoke/MethodHandle" ∧ y_Rd_takeHead.cls ≠ "java/lang/invoke/VarHandle" ∧ (parseMethodDescriptor y_Rd_takeHead.desc).map (fun d => d.parameters.length) = some 0 := by decide +kernel
theorem cal_Rd_entriesAt : y_Rd_entriesAt.cls ≠ "java/lang/invoke/MethodHandle" ∧ y_Rd_entriesAt.cls ≠ "java/lang/invoke/VarHandle" ∧ (parseMethodDescriptor y_Rd_entriesAt.desc).map (fun d => d.parameters.length) = some 1 := by decide +kernel
theorem cal_Rd_linkOf : y_Rd_linkOf.cls ≠ "java/lang/invoke/MethodHandle" ∧ y_Rd_linkOf.cls ≠ "java/lang/invoke/VarHandle" ∧ (parseMethodDescriptor y_Rd_linkOf.desc).map (fun d => d.parameters.length) = some 1 := by decide +kernel
theorem cal_Rd_isDirectory : y_Rd_isDirectory.cls ≠ "java/lang/invoke/MethodHandle" ∧ y_Rd_isDirectory.cls ≠ "java/lang/invoke/VarHandle" ∧ (parseMethodDescriptor y_Rd_isDirectory.desc).map (fun d => d.parameters.length) = some 1 := by decide +kernel
theorem cal_Rd_takeEntries : y_Rd_takeEntries.cls ≠ "java/lang/invoke/MethodHandle" ∧ y_Rd_takeEntries.cls ≠ "java/lang/invoke/VarHandle" ∧ (parseMethodDescriptor y_Rd_takeEntries.desc).map (fun d => d.parameters.length) = some 1 := by decide +kernel
theorem cal_Rd_hasNeededTags : y_Rd_hasNeededTags.cls ≠ "java/lang/invoke/MethodHandle" ∧ y_Rd_hasNeededTags.cls ≠ "java/lang/invoke/VarHandle" ∧ (parseMethodDescriptor y_Rd_hasNeededTags.desc).map (fun d => d.parameters.length) = some 0 := by decide +kernel
theorem cal_Rd_keep : y_Rd_keep.cls ≠ "java/lang/invoke/MethodHandle" ∧ y_Rd_keep.cls ≠ "java/lang/invoke/VarHandle" ∧ (parseMethodDescriptor y_Rd_keep.desc).map (fun d => d.parameters.length) = some 2 := by decide +kernel
theorem cal_Rd_takeNumbers : y_Rd_takeNumbers.cls ≠ "java/lang/invoke/MethodHandle" ∧ y_Rd_takeNumbers.cls ≠ "java/lang/invoke/VarHandle" ∧ (parseMethodDescriptor y_Rd_takeNumbers.desc).map (fun d => d.parameters.length) = some 1 := by decide +kernel
theorem cal_Rd_wrongCount : y_Rd_wrongCount.cls ≠ "java/lang/invoke/MethodHandle" ∧ y_Rd_wrongCount.cls ≠ "java/lang/invoke/VarHandle" ∧ (parseMethodDescriptor y_Rd_wrongCount.desc).map (fun d => d.parameters.length) = some 1 := by decide +kernel
theorem cal_Rd_takeStrips : y_Rd_takeStrips.cls ≠ "java/lang/invoke/MethodHandle" ∧ y_Rd_takeStrips.cls ≠ "java/lang/invoke/VarHandle" ∧ (parseMethodDescriptor y_Rd_takeStrips.desc).map (fun d => d.parameters.length) = some 0 := by decide +kernel
theorem cal_Rd_takePage : y_Rd_takePage.cls ≠ "java/lang/invoke/MethodHandle" ∧ y_Rd_takePage.cls ≠ "java/lang/invoke/VarHandle" ∧ (parseMethodDescriptor y_Rd_takePage.desc).map (fun d => d.parameters.length) = some 1 := by decide +kernel
theorem cal_Rd_goThrough : y_Rd_goThrough.cls ≠ "java/lang/invoke/MethodHandle" ∧ y_Rd_goThrough.cls ≠ "java/lang/invoke/VarHandle" ∧ (parseMethodDescriptor y_Rd_goThrough.desc).map (fun d => d.parameters.length) = some 0 := by decide +kernel
theorem cal_PF_give : y_PF_give.cls ≠ "java/lang/invoke/MethodHandle" ∧ y_PF_give.cls ≠ "java/lang/invoke/VarHandle" ∧ (parseMethodDescriptor y_PF_give.desc).map (fun d => d.parameters.length) = some 2 := by decide +kernel
theorem cal_PF_poke : y_PF_poke.cls ≠ "java/lang/invoke/MethodHandle" ∧ y_PF_poke.cls ≠ "java/lang/invoke/VarHandle" ∧ (parseMethodDescriptor y_PF_poke.desc).map (fun d => d.parameters.length) = some 2 := by decide +kernel
theorem cal_PF_cut : y_PF_cut.cls ≠ "java/lang/invoke/MethodHandle" ∧ y_PF_cut.cls ≠ "java/lang/invoke/VarHandle" ∧ (parseMethodDescriptor y_PF_cut.desc).map (fun d => d.parameters.length) = some 1 := by decide +kernel
theorem cal_PF_bytes : y_PF_bytes.cls ≠ "java/lang/invoke/MethodHandle" ∧ y_PF_bytes.cls ≠ "java/lang/invoke/VarHandle" ∧ (parseMethodDescriptor y_PF_bytes.desc).map (fun d => d.parameters.length) = some 1 := by decide +kernel
theorem cal_PF_put : y_PF_put.cls ≠ "java/lang/invoke/MethodHandle" ∧ y_PF_put.cls ≠ "java/lang/invoke/VarHandle" ∧ (parseMethodDescriptor y_PF_put.desc).map (fun d => d.parameters.length) = some 2 := by decide +kernel
theorem cal_PF_fault : y_PF_fault.cls ≠ "java/lang/invoke/MethodHandle" ∧ y_PF_fault.cls ≠ "java/lang/invoke/VarHandle" ∧ (parseMethodDescriptor y_PF_fault.desc).map (fun d => d.parameters.length) = some 1 := by decide +kernel
theorem cal_PF_look : y_PF_look.cls ≠ "java/lang/invoke/MethodHandle" ∧ y_PF_look.cls ≠ "java/lang/invoke/VarHandle" ∧ (parseMethodDescriptor y_PF_look.desc).map (fun d => d.parameters.length) = some 1 := by decide +kernel
theorem cal_Row_init : y_Row_init.cls ≠ "java/lang/invoke/MethodHandle" ∧ y_Row_init.cls ≠ "java/lang/invoke/VarHandle" ∧ (parseMethodDescriptor y_Row_init.desc).map (fun d => d.parameters.length) = some 0 := by decide +kernel
theorem cal_St_init : y_St_init.cls ≠ "java/lang/invoke/MethodHandle" ∧ y_St_init.cls ≠ "java/lang/invoke/VarHandle" ∧ (parseMethodDescriptor y_St_init.desc).map (fun d => d.parameters.length) = some 1 := by decide +kernel
theorem cal_Mk_init : y_Mk_init.cls ≠ "java/lang/invoke/MethodHandle" ∧ y_Mk_init.cls ≠ "java/lang/invoke/VarHandle" ∧ (parseMethodDescriptor y_Mk_init.desc).map (fun d => d.parameters.length) = some 1 := by decide +kernel
theorem cal_Pn_init : y_Pn_init.cls ≠ "java/lang/invoke/MethodHandle" ∧ y_Pn_init.cls ≠ "java/lang/invoke/VarHandle" ∧ (parseMethodDescriptor y_Pn_init.desc).map (fun d => d.parameters.length) = some 0 := by decide +kernel
theorem cal_En_init : y_En_init.cls ≠ "java/lang/invoke/MethodHandle" ∧ y_En_init.cls ≠ "java/lang/invoke/VarHandle" ∧ (parseMethodDescriptor y_En_init.desc).map (fun d => d.parameters.length) = some 1 := by decide +kernel
theorem cal_Rd_init : y_Rd_init.cls ≠ "java/lang/invoke/MethodHandle" ∧ y_Rd_init.cls ≠ "java/lang/invoke/VarHandle" ∧ (parseMethodDescriptor y_Rd_init.desc).map (fun d => d.parameters.length) = some 1 := by decide +kernel
theorem cal_PF_init : y_PF_init.cls ≠ "java/lang/invoke/MethodHandle" ∧ y_PF_init.cls ≠ "java/lang/invoke/VarHandle" ∧ (parseMethodDescriptor y_PF_init.desc).map (fun d => d.parameters.length) = some 0 := by decide +kernel
theorem cal_PF_begin : y_PF_begin.cls ≠ "java/lang/invoke/MethodHandle" ∧ y_PF_begin.cls ≠ "java/lang/invoke/VarHandle" ∧ (parseMethodDescriptor y_PF_begin.desc).map (fun d => d.parameters.length) = some 1 := by decide +kernel
theorem cal_PF_page : y_PF_page.cls ≠ "java/lang/invoke/MethodHandle" ∧ y_PF_page.cls ≠ "java/lang/invoke/VarHandle" ∧ (parseMethodDescriptor y_PF_page.desc).map (fun d => d.parameters.length) = some 5 := by decide +kernel
theorem cal_PF_strip : y_PF_strip.cls ≠ "java/lang/invoke/MethodHandle" ∧ y_PF_strip.cls ≠ "java/lang/invoke/VarHandle" ∧ (parseMethodDescriptor y_PF_strip.desc).map (fun d => d.parameters.length) = some 0 := by decide +kernel
theorem cal_PF_close : y_PF_close.cls ≠ "java/lang/invoke/MethodHandle" ∧ y_PF_close.cls ≠ "java/lang/invoke/VarHandle" ∧ (parseMethodDescriptor y_PF_close.desc).map (fun d => d.parameters.length) = some 0 := by decide +kernel
theorem cal_PF_end : y_PF_end.cls ≠ "java/lang/invoke/MethodHandle" ∧ y_PF_end.cls ≠ "java/lang/invoke/VarHandle" ∧ (parseMethodDescriptor y_PF_end.desc).map (fun d => d.parameters.length) = some 0 := by decide +kernel
theorem cal_PF_read : y_PF_read.cls ≠ "java/lang/invoke/MethodHandle" ∧ y_PF_read.cls ≠ "java/lang/invoke/VarHandle" ∧ (parseMethodDescriptor y_PF_read.desc).map (fun d => d.parameters.length) = some 0 := by decide +kernel
theorem cal_PF_of : y_PF_of.cls ≠ "java/lang/invoke/MethodHandle" ∧ y_PF_of.cls ≠ "java/lang/invoke/VarHandle" ∧ (parseMethodDescriptor y_PF_of.desc).map (fun d => d.parameters.length) = some 2 := by decide +kernel
theorem cal_PF_where : y_PF_where.cls ≠ "java/lang/invoke/MethodHandle" ∧ y_PF_where.cls ≠ "java/lang/invoke/VarHandle" ∧ (parseMethodDescriptor y_PF_where.desc).map (fun d => d.parameters.length) = some 3 := by decide +kernel
theorem cal_PF_dots : y_PF_dots.cls ≠ "java/lang/invoke/MethodHandle" ∧ y_PF_dots.cls ≠ "java/lang/invoke/VarHandle" ∧ (parseMethodDescriptor y_PF_dots.desc).map (fun d => d.parameters.length) = some 3 := by decide +kernel
theorem cal_copyOfB : y_copyOfB.cls ≠ "java/lang/invoke/MethodHandle" ∧ y_copyOfB.cls ≠ "java/lang/invoke/VarHandle" ∧ (parseMethodDescriptor y_copyOfB.desc).map (fun d => d.parameters.length) = some 2 := by decide +kernel
theorem cal_copyOfI : y_copyOfI.cls ≠ "java/lang/invoke/MethodHandle" ∧ y_copyOfI.cls ≠ "java/lang/invoke/VarHandle" ∧ (parseMethodDescriptor y_copyOfI.desc).map (fun d => d.parameters.length) = some 2 := by decide +kernel
theorem cal_fillI : y_fillI.cls ≠ "java/lang/invoke/MethodHandle" ∧ y_fillI.cls ≠ "java/lang/invoke/VarHandle" ∧ (parseMethodDescriptor y_fillI.desc).map (fun d => d.parameters.length) = some 2 := by decide +kernel
