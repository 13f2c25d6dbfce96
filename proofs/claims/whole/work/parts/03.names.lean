def R_Row : String := "PictureFile$Row"
def F_Row : u_T := fun k => match k with
  | 0 => ("PictureFile$Row", "cells", "[B", false)
  | _ => ("PictureFile$Row", "size", "I", false)
def t_Row : Nat → FieldType := fun k => match k with
  | 0 => .array .byte
  | _ => .int
theorem n_Row : ∀ a, a < 2 → ∀ b, b < 2 → a ≠ b → (F_Row a).2.1 ≠ (F_Row b).2.1 := by decide +kernel
theorem t_Row_ok : ∀ k, k < 2 → parseFieldDescriptor (F_Row k).2.2.1 = some (t_Row k) := by decide +kernel
def R_St : String := "PictureFile$Strips"
def F_St : u_T := fun k => match k with
  | 0 => ("PictureFile$Strips", "most", "I", true)
  | 1 => ("PictureFile$Strips", "cells", "[I", false)
  | _ => ("PictureFile$Strips", "count", "I", false)
def t_St : Nat → FieldType := fun k => match k with
  | 0 => .int
  | 1 => .array .int
  | _ => .int
theorem n_St : ∀ a, a < 3 → ∀ b, b < 3 → a ≠ b → (F_St a).2.1 ≠ (F_St b).2.1 := by decide +kernel
theorem t_St_ok : ∀ k, k < 3 → parseFieldDescriptor (F_St k).2.2.1 = some (t_St k) := by decide +kernel
def R_Mk : String := "PictureFile$Maker"
def F_Mk : u_T := fun k => match k with
  | 0 => ("PictureFile$Maker", "file", "LPictureFile$Row;", true)
  | 1 => ("PictureFile$Maker", "strips", "LPictureFile$Strips;", true)
  | 2 => ("PictureFile$Maker", "making", "Z", false)
  | 3 => ("PictureFile$Maker", "onPage", "Z", false)
  | 4 => ("PictureFile$Maker", "order", "I", false)
  | 5 => ("PictureFile$Maker", "pages", "I", false)
  | 6 => ("PictureFile$Maker", "link", "I", false)
  | 7 => ("PictureFile$Maker", "width", "I", false)
  | 8 => ("PictureFile$Maker", "height", "I", false)
  | 9 => ("PictureFile$Maker", "rows", "I", false)
  | 10 => ("PictureFile$Maker", "across", "I", false)
  | 11 => ("PictureFile$Maker", "down", "I", false)
  | 12 => ("PictureFile$Maker", "stripsDue", "I", false)
  | _ => ("PictureFile$Maker", "stripBytes", "I", false)
def t_Mk : Nat → FieldType := fun k => match k with
  | 0 => .object "PictureFile$Row"
  | 1 => .object "PictureFile$Strips"
  | 2 => .boolean
  | 3 => .boolean
  | 4 => .int
  | 5 => .int
  | 6 => .int
  | 7 => .int
  | 8 => .int
  | 9 => .int
  | 10 => .int
  | 11 => .int
  | 12 => .int
  | _ => .int
theorem n_Mk : ∀ a, a < 14 → ∀ b, b < 14 → a ≠ b → (F_Mk a).2.1 ≠ (F_Mk b).2.1 := by decide +kernel
theorem t_Mk_ok : ∀ k, k < 14 → parseFieldDescriptor (F_Mk k).2.2.1 = some (t_Mk k) := by decide +kernel
def R_Pn : String := "PictureFile$PageNumbers"
def F_Pn : u_T := fun k => match k with
  | _ => ("PictureFile$PageNumbers", "cells", "[J", true)
def t_Pn : Nat → FieldType := fun k => match k with
  | _ => .array .long
theorem n_Pn : ∀ a, a < 1 → ∀ b, b < 1 → a ≠ b → (F_Pn a).2.1 ≠ (F_Pn b).2.1 := by decide +kernel
theorem t_Pn_ok : ∀ k, k < 1 → parseFieldDescriptor (F_Pn k).2.2.1 = some (t_Pn k) := by decide +kernel
def R_En : String := "PictureFile$Entries"
def F_En : u_T := fun k => match k with
  | 0 => ("PictureFile$Entries", "file", "LPictureFile$Row;", true)
  | 1 => ("PictureFile$Entries", "types", "[I", true)
  | 2 => ("PictureFile$Entries", "counts", "[I", true)
  | _ => ("PictureFile$Entries", "places", "[I", true)
def t_En : Nat → FieldType := fun k => match k with
  | 0 => .object "PictureFile$Row"
  | 1 => .array .int
  | 2 => .array .int
  | _ => .array .int
theorem n_En : ∀ a, a < 4 → ∀ b, b < 4 → a ≠ b → (F_En a).2.1 ≠ (F_En b).2.1 := by decide +kernel
theorem t_En_ok : ∀ k, k < 4 → parseFieldDescriptor (F_En k).2.2.1 = some (t_En k) := by decide +kernel
def R_Rd : String := "PictureFile$Reader"
def F_Rd : u_T := fun k => match k with
  | 0 => ("PictureFile$Reader", "file", "LPictureFile$Row;", true)
  | 1 => ("PictureFile$Reader", "entries", "LPictureFile$Entries;", true)
  | 2 => ("PictureFile$Reader", "numbers", "LPictureFile$PageNumbers;", true)
  | 3 => ("PictureFile$Reader", "strips", "LPictureFile$Strips;", true)
  | 4 => ("PictureFile$Reader", "firstStrips", "[I", true)
  | 5 => ("PictureFile$Reader", "pages", "I", false)
  | 6 => ("PictureFile$Reader", "order", "I", false)
  | 7 => ("PictureFile$Reader", "current", "I", false)
  | 8 => ("PictureFile$Reader", "faultKind", "I", false)
  | 9 => ("PictureFile$Reader", "faultPage", "I", false)
  | 10 => ("PictureFile$Reader", "faultTag", "I", false)
  | _ => ("PictureFile$Reader", "faultStrip", "I", false)
def t_Rd : Nat → FieldType := fun k => match k with
  | 0 => .object "PictureFile$Row"
  | 1 => .object "PictureFile$Entries"
  | 2 => .object "PictureFile$PageNumbers"
  | 3 => .object "PictureFile$Strips"
  | 4 => .array .int
  | 5 => .int
  | 6 => .int
  | 7 => .int
  | 8 => .int
  | 9 => .int
  | 10 => .int
  | _ => .int
theorem n_Rd : ∀ a, a < 12 → ∀ b, b < 12 → a ≠ b → (F_Rd a).2.1 ≠ (F_Rd b).2.1 := by decide +kernel
theorem t_Rd_ok : ∀ k, k < 12 → parseFieldDescriptor (F_Rd k).2.2.1 = some (t_Rd k) := by decide +kernel
def R_PF : String := "PictureFile"
def F_PF : u_T := fun k => match k with
  | 0 => ("PictureFile", "file", "LPictureFile$Row;", true)
  | 1 => ("PictureFile", "maker", "LPictureFile$Maker;", true)
  | _ => ("PictureFile", "reader", "LPictureFile$Reader;", true)
def t_PF : Nat → FieldType := fun k => match k with
  | 0 => .object "PictureFile$Row"
  | 1 => .object "PictureFile$Maker"
  | _ => .object "PictureFile$Reader"
theorem n_PF : ∀ a, a < 3 → ∀ b, b < 3 → a ≠ b → (F_PF a).2.1 ≠ (F_PF b).2.1 := by decide +kernel
theorem t_PF_ok : ∀ k, k < 3 → parseFieldDescriptor (F_PF k).2.2.1 = some (t_PF k) := by decide +kernel
def R_Md : String := "PictureFileModel"
def F_Md : u_T := fun k => match k with
  | 0 => ("PictureFileModel", "thrown", "I", false)
  | 1 => ("PictureFileModel", "file", "[B", true)
  | 2 => ("PictureFileModel", "size", "I", false)
  | 3 => ("PictureFileModel", "making", "Z", false)
  | 4 => ("PictureFileModel", "open", "Z", false)
  | 5 => ("PictureFileModel", "order", "I", false)
  | 6 => ("PictureFileModel", "made", "I", false)
  | 7 => ("PictureFileModel", "link", "I", false)
  | 8 => ("PictureFileModel", "width", "I", false)
  | 9 => ("PictureFileModel", "height", "I", false)
  | 10 => ("PictureFileModel", "rows", "I", false)
  | 11 => ("PictureFileModel", "across", "I", false)
  | 12 => ("PictureFileModel", "down", "I", false)
  | 13 => ("PictureFileModel", "strips", "I", false)
  | 14 => ("PictureFileModel", "done", "I", false)
  | 15 => ("PictureFileModel", "from", "I", false)
  | 16 => ("PictureFileModel", "length", "I", false)
  | 17 => ("PictureFileModel", "places", "[I", true)
  | 18 => ("PictureFileModel", "lengths", "[I", true)
  | 19 => ("PictureFileModel", "wasOrder", "I", false)
  | 20 => ("PictureFileModel", "pages", "I", false)
  | 21 => ("PictureFileModel", "numbers", "[J", true)
  | 22 => ("PictureFileModel", "firstStrip", "[I", true)
  | 23 => ("PictureFileModel", "stripPlace", "[I", true)
  | 24 => ("PictureFileModel", "stripLength", "[I", true)
  | 25 => ("PictureFileModel", "fault", "I", false)
  | 26 => ("PictureFileModel", "faultPage", "I", false)
  | 27 => ("PictureFileModel", "faultTag", "I", false)
  | 28 => ("PictureFileModel", "faultStrip", "I", false)
  | _ => ("PictureFileModel", "entry", "[I", true)
def t_Md : Nat → FieldType := fun k => match k with
  | 0 => .int
  | 1 => .array .byte
  | 2 => .int
  | 3 => .boolean
  | 4 => .boolean
  | 5 => .int
  | 6 => .int
  | 7 => .int
  | 8 => .int
  | 9 => .int
  | 10 => .int
  | 11 => .int
  | 12 => .int
  | 13 => .int
  | 14 => .int
  | 15 => .int
  | 16 => .int
  | 17 => .array .int
  | 18 => .array .int
  | 19 => .int
  | 20 => .int
  | 21 => .array .long
  | 22 => .array .int
  | 23 => .array .int
  | 24 => .array .int
  | 25 => .int
  | 26 => .int
  | 27 => .int
  | 28 => .int
  | _ => .array .int
theorem n_Md : ∀ a, a < 30 → ∀ b, b < 30 → a ≠ b → (F_Md a).2.1 ≠ (F_Md b).2.1 := by decide +kernel
theorem t_Md_ok : ∀ k, k < 30 → parseFieldDescriptor (F_Md k).2.2.1 = some (t_Md k) := by decide +kernel
abbrev classes : List vw_C := [(R_Row, F_Row, 2), (R_St, F_St, 3), (R_Mk, F_Mk, 14), (R_Pn, F_Pn, 1), (R_En, F_En, 4), (R_Rd, F_Rd, 12), (R_PF, F_PF, 3), (R_Md, F_Md, 30)]
abbrev TY (cB cI cJ : ClassId) : List (ClassId × FieldType) := [(cB, .byte), (cI, .int), (cJ, .long)]
abbrev b_PF_isWithin : ByteArray := prog_1_method_18_code
def y_PF_isWithin : MethodName := ⟨"PictureFile", "isWithin", "(JJJ)Z"⟩
abbrev b_PF_isPartLength : ByteArray := prog_1_method_19_code
def y_PF_isPartLength : MethodName := ⟨"PictureFile", "isPartLength", "(I)Z"⟩
abbrev b_PF_isOrder : ByteArray := prog_1_method_20_code
def y_PF_isOrder : MethodName := ⟨"PictureFile", "isOrder", "(I)Z"⟩
abbrev b_PF_isFineness : ByteArray := prog_1_method_21_code
def y_PF_isFineness : MethodName := ⟨"PictureFile", "isFineness", "(I)Z"⟩
abbrev b_PF_stripsOf : ByteArray := prog_1_method_23_code
def y_PF_stripsOf : MethodName := ⟨"PictureFile", "stripsOf", "(JJ)J"⟩
abbrev b_PF_isSheet : ByteArray := prog_1_method_22_code
def y_PF_isSheet : MethodName := ⟨"PictureFile", "isSheet", "(III)Z"⟩
abbrev b_Row_at : ByteArray := prog_6_method_2_code
def y_Row_at : MethodName := ⟨"PictureFile$Row", "at", "(J)I"⟩
abbrev b_Row_shiftOf : ByteArray := prog_6_method_9_code
def y_Row_shiftOf : MethodName := ⟨"PictureFile$Row", "shiftOf", "(III)I"⟩
abbrev b_Row_replace : ByteArray := prog_6_method_3_code
def y_Row_replace : MethodName := ⟨"PictureFile$Row", "replace", "(II)V"⟩
abbrev b_Row_add : ByteArray := prog_6_method_4_code
def y_Row_add : MethodName := ⟨"PictureFile$Row", "add", "(I)V"⟩
abbrev b_Row_number : ByteArray := prog_6_method_5_code
def y_Row_number : MethodName := ⟨"PictureFile$Row", "number", "(JII)J"⟩
abbrev b_Row_append : ByteArray := prog_6_method_6_code
def y_Row_append : MethodName := ⟨"PictureFile$Row", "append", "(JII)V"⟩
abbrev b_Row_replaceLong : ByteArray := prog_6_method_7_code
def y_Row_replaceLong : MethodName := ⟨"PictureFile$Row", "replaceLong", "(IJI)V"⟩
abbrev b_Row_makeEven : ByteArray := prog_6_method_8_code
def y_Row_makeEven : MethodName := ⟨"PictureFile$Row", "makeEven", "()V"⟩
abbrev b_St_get : ByteArray := prog_7_method_3_code
def y_St_get : MethodName := ⟨"PictureFile$Strips", "get", "(II)I"⟩
abbrev b_St_add : ByteArray := prog_7_method_2_code
def y_St_add : MethodName := ⟨"PictureFile$Strips", "add", "(II)V"⟩
abbrev b_Mk_addShort : ByteArray := prog_3_method_16_code
def y_Mk_addShort : MethodName := ⟨"PictureFile$Maker", "addShort", "(I)V"⟩
abbrev b_Mk_addLong : ByteArray := prog_3_method_17_code
def y_Mk_addLong : MethodName := ⟨"PictureFile$Maker", "addLong", "(I)V"⟩
abbrev b_Mk_leavePage : ByteArray := prog_3_method_4_code
def y_Mk_leavePage : MethodName := ⟨"PictureFile$Maker", "leavePage", "()V"⟩
abbrev b_Mk_startFile : ByteArray := prog_3_method_2_code
def y_Mk_startFile : MethodName := ⟨"PictureFile$Maker", "startFile", "(I)V"⟩
abbrev b_Mk_startPage : ByteArray := prog_3_method_3_code
def y_Mk_startPage : MethodName := ⟨"PictureFile$Maker", "startPage", "(IIIII)V"⟩
abbrev b_Mk_stripsToCome : ByteArray := prog_3_method_5_code
def y_Mk_stripsToCome : MethodName := ⟨"PictureFile$Maker", "stripsToCome", "()I"⟩
abbrev b_Mk_hasRoomFor : ByteArray := prog_3_method_6_code
def y_Mk_hasRoomFor : MethodName := ⟨"PictureFile$Maker", "hasRoomFor", "(I)Z"⟩
abbrev b_Mk_addToStrip : ByteArray := prog_3_method_7_code
def y_Mk_addToStrip : MethodName := ⟨"PictureFile$Maker", "addToStrip", "(JI)V"⟩
abbrev b_Mk_finishStrip : ByteArray := prog_3_method_8_code
def y_Mk_finishStrip : MethodName := ⟨"PictureFile$Maker", "finishStrip", "()V"⟩
abbrev b_Mk_hasLists : ByteArray := prog_3_method_9_code
def y_Mk_hasLists : MethodName := ⟨"PictureFile$Maker", "hasLists", "()Z"⟩
abbrev b_Mk_sizeWithPage : ByteArray := prog_3_method_10_code
def y_Mk_sizeWithPage : MethodName := ⟨"PictureFile$Maker", "sizeWithPage", "()I"⟩
abbrev b_Mk_addList : ByteArray := prog_3_method_12_code
def y_Mk_addList : MethodName := ⟨"PictureFile$Maker", "addList", "(I)V"⟩
abbrev b_Mk_addFineness : ByteArray := prog_3_method_13_code
def y_Mk_addFineness : MethodName := ⟨"PictureFile$Maker", "addFineness", "(I)V"⟩
abbrev b_Mk_addEntry : ByteArray := prog_3_method_15_code
def y_Mk_addEntry : MethodName := ⟨"PictureFile$Maker", "addEntry", "(IIII)V"⟩
abbrev b_Mk_addDirectory : ByteArray := prog_3_method_14_code
def y_Mk_addDirectory : MethodName := ⟨"PictureFile$Maker", "addDirectory", "(II)V"⟩
abbrev b_Mk_finishPage : ByteArray := prog_3_method_11_code
def y_Mk_finishPage : MethodName := ⟨"PictureFile$Maker", "finishPage", "()V"⟩
abbrev b_Pn_get : ByteArray := prog_4_method_2_code
def y_Pn_get : MethodName := ⟨"PictureFile$PageNumbers", "get", "(II)J"⟩
abbrev b_Pn_set : ByteArray := prog_4_method_3_code
def y_Pn_set : MethodName := ⟨"PictureFile$PageNumbers", "set", "(IIJ)V"⟩
abbrev b_Pn_wrongTag : ByteArray := prog_4_method_4_code
def y_Pn_wrongTag : MethodName := ⟨"PictureFile$PageNumbers", "wrongTag", "(I)I"⟩
abbrev b_En_forgetAll : ByteArray := prog_2_method_2_code
def y_En_forgetAll : MethodName := ⟨"PictureFile$Entries", "forgetAll", "()V"⟩
abbrev b_En_widestType : ByteArray := prog_2_method_3_code
def y_En_widestType : MethodName := ⟨"PictureFile$Entries", "widestType", "(I)I"⟩
abbrev b_En_canHaveType : ByteArray := prog_2_method_4_code
def y_En_canHaveType : MethodName := ⟨"PictureFile$Entries", "canHaveType", "(II)Z"⟩
abbrev b_En_canHaveCount : ByteArray := prog_2_method_5_code
def y_En_canHaveCount : MethodName := ⟨"PictureFile$Entries", "canHaveCount", "(IJ)Z"⟩
abbrev b_En_bytesOf : ByteArray := prog_2_method_6_code
def y_En_bytesOf : MethodName := ⟨"PictureFile$Entries", "bytesOf", "(I)I"⟩
abbrev b_En_keepEntry : ByteArray := prog_2_method_8_code
def y_En_keepEntry : MethodName := ⟨"PictureFile$Entries", "keepEntry", "(IIII)V"⟩
abbrev b_En_take : ByteArray := prog_2_method_7_code
def y_En_take : MethodName := ⟨"PictureFile$Entries", "take", "(III)I"⟩
abbrev b_En_countOf : ByteArray := prog_2_method_9_code
def y_En_countOf : MethodName := ⟨"PictureFile$Entries", "countOf", "(I)I"⟩
abbrev b_En_firstMissing : ByteArray := prog_2_method_10_code
def y_En_firstMissing : MethodName := ⟨"PictureFile$Entries", "firstMissing", "()I"⟩
abbrev b_En_number : ByteArray := prog_2_method_11_code
def y_En_number : MethodName := ⟨"PictureFile$Entries", "number", "(IIIJ)J"⟩
abbrev b_Rd_hasPage : ByteArray := prog_5_method_2_code
def y_Rd_hasPage : MethodName := ⟨"PictureFile$Reader", "hasPage", "(I)Z"⟩
abbrev b_Rd_hasStrip : ByteArray := prog_5_method_3_code
def y_Rd_hasStrip : MethodName := ⟨"PictureFile$Reader", "hasStrip", "(II)Z"⟩
abbrev b_Rd_ofStrip : ByteArray := prog_5_method_4_code
def y_Rd_ofStrip : MethodName := ⟨"PictureFile$Reader", "ofStrip", "(III)I"⟩
abbrev b_Rd_faultNumber : ByteArray := prog_5_method_5_code
def y_Rd_faultNumber : MethodName := ⟨"PictureFile$Reader", "faultNumber", "(I)I"⟩
abbrev b_Rd_forgetAll : ByteArray := prog_5_method_7_code
def y_Rd_forgetAll : MethodName := ⟨"PictureFile$Reader", "forgetAll", "()V"⟩
abbrev b_Rd_refuse : ByteArray := prog_5_method_8_code
def y_Rd_refuse : MethodName := ⟨"PictureFile$Reader", "refuse", "(III)Z"⟩
abbrev b_Rd_takeHead : ByteArray := prog_5_method_9_code
def y_Rd_takeHead : MethodName := ⟨"PictureFile$Reader", "takeHead", "()Z"⟩
abbrev b_Rd_entriesAt : ByteArray := prog_5_method_11_code
def y_Rd_entriesAt : MethodName := ⟨"PictureFile$Reader", "entriesAt", "(J)I"⟩
abbrev b_Rd_linkOf : ByteArray := prog_5_method_12_code
def y_Rd_linkOf : MethodName := ⟨"PictureFile$Reader", "linkOf", "(J)J"⟩
abbrev b_Rd_isDirectory : ByteArray := prog_5_method_13_code
def y_Rd_isDirectory : MethodName := ⟨"PictureFile$Reader", "isDirectory", "(J)Z"⟩
abbrev b_Rd_takeEntries : ByteArray := prog_5_method_14_code
def y_Rd_takeEntries : MethodName := ⟨"PictureFile$Reader", "takeEntries", "(I)Z"⟩
abbrev b_Rd_hasNeededTags : ByteArray := prog_5_method_15_code
def y_Rd_hasNeededTags : MethodName := ⟨"PictureFile$Reader", "hasNeededTags", "()Z"⟩
abbrev b_Rd_keep : ByteArray := prog_5_method_17_code
def y_Rd_keep : MethodName := ⟨"PictureFile$Reader", "keep", "(IJ)V"⟩
abbrev b_Rd_takeNumbers : ByteArray := prog_5_method_16_code
def y_Rd_takeNumbers : MethodName := ⟨"PictureFile$Reader", "takeNumbers", "(J)Z"⟩
abbrev b_Rd_wrongCount : ByteArray := prog_5_method_19_code
def y_Rd_wrongCount : MethodName := ⟨"PictureFile$Reader", "wrongCount", "(I)I"⟩
abbrev b_Rd_takeStrips : ByteArray := prog_5_method_18_code
def y_Rd_takeStrips : MethodName := ⟨"PictureFile$Reader", "takeStrips", "()Z"⟩
abbrev b_Rd_takePage : ByteArray := prog_5_method_10_code
def y_Rd_takePage : MethodName := ⟨"PictureFile$Reader", "takePage", "(J)Z"⟩
abbrev b_Rd_goThrough : ByteArray := prog_5_method_6_code
def y_Rd_goThrough : MethodName := ⟨"PictureFile$Reader", "goThrough", "()V"⟩
abbrev b_PF_give : ByteArray := prog_1_method_2_code
def y_PF_give : MethodName := ⟨"PictureFile", "give", "(JI)Z"⟩
abbrev b_PF_poke : ByteArray := prog_1_method_3_code
def y_PF_poke : MethodName := ⟨"PictureFile", "poke", "(II)Z"⟩
abbrev b_PF_cut : ByteArray := prog_1_method_4_code
def y_PF_cut : MethodName := ⟨"PictureFile", "cut", "(I)Z"⟩
abbrev b_PF_bytes : ByteArray := prog_1_method_5_code
def y_PF_bytes : MethodName := ⟨"PictureFile", "bytes", "(I)J"⟩
abbrev b_PF_put : ByteArray := prog_1_method_8_code
def y_PF_put : MethodName := ⟨"PictureFile", "put", "(JI)Z"⟩
abbrev b_PF_fault : ByteArray := prog_1_method_13_code
def y_PF_fault : MethodName := ⟨"PictureFile", "fault", "(I)I"⟩
abbrev b_PF_look : ByteArray := prog_1_method_17_code
def y_PF_look : MethodName := ⟨"PictureFile", "look", "(I)I"⟩
abbrev b_Md_thrown : ByteArray := prog_9_method_2_code
def y_Md_thrown : MethodName := ⟨"PictureFileModel", "thrown", "()I"⟩
abbrev b_Md_at : ByteArray := prog_9_method_4_code
def y_Md_at : MethodName := ⟨"PictureFileModel", "at", "(I)I"⟩
abbrev b_Md_one : ByteArray := prog_9_method_3_code
def y_Md_one : MethodName := ⟨"PictureFileModel", "one", "(I)V"⟩
abbrev b_Md_two : ByteArray := prog_9_method_9_code
def y_Md_two : MethodName := ⟨"PictureFileModel", "two", "(I)V"⟩
abbrev b_Md_four : ByteArray := prog_9_method_10_code
def y_Md_four : MethodName := ⟨"PictureFileModel", "four", "(I)V"⟩
abbrev b_Md_fourAt : ByteArray := prog_9_method_11_code
def y_Md_fourAt : MethodName := ⟨"PictureFileModel", "fourAt", "(II)V"⟩
abbrev b_Md_begin : ByteArray := prog_9_method_12_code
def y_Md_begin : MethodName := ⟨"PictureFileModel", "begin", "(I)V"⟩
abbrev b_Md_page : ByteArray := prog_9_method_13_code
def y_Md_page : MethodName := ⟨"PictureFileModel", "page", "(IIIII)I"⟩
abbrev b_Md_start : ByteArray := prog_9_method_14_code
def y_Md_start : MethodName := ⟨"PictureFileModel", "start", "()V"⟩
abbrev b_Md_give : ByteArray := prog_9_method_5_code
def y_Md_give : MethodName := ⟨"PictureFileModel", "give", "(JI)Z"⟩
abbrev b_Md_poke : ByteArray := prog_9_method_6_code
def y_Md_poke : MethodName := ⟨"PictureFileModel", "poke", "(II)Z"⟩
abbrev b_Md_cut : ByteArray := prog_9_method_7_code
def y_Md_cut : MethodName := ⟨"PictureFileModel", "cut", "(I)Z"⟩
abbrev b_Md_bytes : ByteArray := prog_9_method_8_code
def y_Md_bytes : MethodName := ⟨"PictureFileModel", "bytes", "(I)J"⟩
abbrev b_Md_put : ByteArray := prog_9_method_15_code
def y_Md_put : MethodName := ⟨"PictureFileModel", "put", "(JI)Z"⟩
abbrev b_Md_strip : ByteArray := prog_9_method_16_code
def y_Md_strip : MethodName := ⟨"PictureFileModel", "strip", "()I"⟩
abbrev b_Md_entryOf : ByteArray := prog_9_method_17_code
def y_Md_entryOf : MethodName := ⟨"PictureFileModel", "entryOf", "(IIII)V"⟩
abbrev b_Md_close : ByteArray := prog_9_method_18_code
def y_Md_close : MethodName := ⟨"PictureFileModel", "close", "()I"⟩
abbrev b_Md_end : ByteArray := prog_9_method_19_code
def y_Md_end : MethodName := ⟨"PictureFileModel", "end", "()I"⟩
abbrev b_Md_readTwo : ByteArray := prog_9_method_20_code
def y_Md_readTwo : MethodName := ⟨"PictureFileModel", "readTwo", "(I)I"⟩
abbrev b_Md_readFour : ByteArray := prog_9_method_21_code
def y_Md_readFour : MethodName := ⟨"PictureFileModel", "readFour", "(I)J"⟩
abbrev b_Md_known : ByteArray := prog_9_method_22_code
def y_Md_known : MethodName := ⟨"PictureFileModel", "known", "(I)I"⟩
abbrev b_Md_wrong : ByteArray := prog_9_method_23_code
def y_Md_wrong : MethodName := ⟨"PictureFileModel", "wrong", "(IIII)Z"⟩
abbrev b_Md_sizeOf : ByteArray := prog_9_method_24_code
def y_Md_sizeOf : MethodName := ⟨"PictureFileModel", "sizeOf", "(I)I"⟩
abbrev b_Md_sound : ByteArray := prog_9_method_25_code
def y_Md_sound : MethodName := ⟨"PictureFileModel", "sound", "(III)Z"⟩
abbrev b_Md_value : ByteArray := prog_9_method_26_code
def y_Md_value : MethodName := ⟨"PictureFileModel", "value", "(II)J"⟩
abbrev b_Md_valueOr : ByteArray := prog_9_method_27_code
def y_Md_valueOr : MethodName := ⟨"PictureFileModel", "valueOr", "(IIJ)J"⟩
abbrev b_Md_entries : ByteArray := prog_9_method_28_code
def y_Md_entries : MethodName := ⟨"PictureFileModel", "entries", "(II)Z"⟩
abbrev b_Md_stripsOf : ByteArray := prog_9_method_30_code
def y_Md_stripsOf : MethodName := ⟨"PictureFileModel", "stripsOf", "(II)Z"⟩
abbrev b_Md_values : ByteArray := prog_9_method_29_code
def y_Md_values : MethodName := ⟨"PictureFileModel", "values", "(I)Z"⟩
abbrev b_Md_lies : ByteArray := prog_9_method_31_code
def y_Md_lies : MethodName := ⟨"PictureFileModel", "lies", "(J)Z"⟩
abbrev b_Md_gone : ByteArray := prog_9_method_32_code
def y_Md_gone : MethodName := ⟨"PictureFileModel", "gone", "()V"⟩
abbrev b_Md_read : ByteArray := prog_9_method_33_code
def y_Md_read : MethodName := ⟨"PictureFileModel", "read", "()I"⟩
abbrev b_Md_fault : ByteArray := prog_9_method_34_code
def y_Md_fault : MethodName := ⟨"PictureFileModel", "fault", "(I)I"⟩
abbrev b_Md_of : ByteArray := prog_9_method_35_code
def y_Md_of : MethodName := ⟨"PictureFileModel", "of", "(II)J"⟩
abbrev b_Md_isStrip : ByteArray := prog_9_method_36_code
def y_Md_isStrip : MethodName := ⟨"PictureFileModel", "isStrip", "(II)Z"⟩
abbrev b_Md_where : ByteArray := prog_9_method_37_code
def y_Md_where : MethodName := ⟨"PictureFileModel", "where", "(III)I"⟩
abbrev b_Md_dots : ByteArray := prog_9_method_38_code
def y_Md_dots : MethodName := ⟨"PictureFileModel", "dots", "(III)I"⟩
abbrev b_Md_look : ByteArray := prog_9_method_39_code
def y_Md_look : MethodName := ⟨"PictureFileModel", "look", "(I)I"⟩
abbrev b_Row_init : ByteArray := prog_6_method_1_code
def y_Row_init : MethodName := ⟨"PictureFile$Row", "<init>", "()V"⟩
abbrev b_St_init : ByteArray := prog_7_method_1_code
def y_St_init : MethodName := ⟨"PictureFile$Strips", "<init>", "(I)V"⟩
abbrev b_Mk_init : ByteArray := prog_3_method_1_code
def y_Mk_init : MethodName := ⟨"PictureFile$Maker", "<init>", "(LPictureFile$Row;)V"⟩
abbrev b_Pn_init : ByteArray := prog_4_method_1_code
def y_Pn_init : MethodName := ⟨"PictureFile$PageNumbers", "<init>", "()V"⟩
abbrev b_En_init : ByteArray := prog_2_method_1_code
def y_En_init : MethodName := ⟨"PictureFile$Entries", "<init>", "(LPictureFile$Row;)V"⟩
abbrev b_Rd_init : ByteArray := prog_5_method_1_code
def y_Rd_init : MethodName := ⟨"PictureFile$Reader", "<init>", "(LPictureFile$Row;)V"⟩
abbrev b_PF_init : ByteArray := prog_1_method_1_code
def y_PF_init : MethodName := ⟨"PictureFile", "<init>", "()V"⟩
abbrev b_Md_init : ByteArray := prog_9_method_1_code
def y_Md_init : MethodName := ⟨"PictureFileModel", "<init>", "()V"⟩
abbrev b_PF_begin : ByteArray := prog_1_method_6_code
def y_PF_begin : MethodName := ⟨"PictureFile", "begin", "(I)V"⟩
abbrev b_PF_page : ByteArray := prog_1_method_7_code
def y_PF_page : MethodName := ⟨"PictureFile", "page", "(IIIII)I"⟩
abbrev b_PF_strip : ByteArray := prog_1_method_9_code
def y_PF_strip : MethodName := ⟨"PictureFile", "strip", "()I"⟩
abbrev b_PF_close : ByteArray := prog_1_method_10_code
def y_PF_close : MethodName := ⟨"PictureFile", "close", "()I"⟩
abbrev b_PF_end : ByteArray := prog_1_method_11_code
def y_PF_end : MethodName := ⟨"PictureFile", "end", "()I"⟩
abbrev b_PF_read : ByteArray := prog_1_method_12_code
def y_PF_read : MethodName := ⟨"PictureFile", "read", "()I"⟩
abbrev b_PF_of : ByteArray := prog_1_method_14_code
def y_PF_of : MethodName := ⟨"PictureFile", "of", "(II)J"⟩
abbrev b_PF_where : ByteArray := prog_1_method_15_code
def y_PF_where : MethodName := ⟨"PictureFile", "where", "(III)I"⟩
abbrev b_PF_dots : ByteArray := prog_1_method_16_code
def y_PF_dots : MethodName := ⟨"PictureFile", "dots", "(III)I"⟩
abbrev b_Lw_begin : ByteArray := method_3_code
def y_Lw_begin : MethodName := ⟨"PictureFileLaw", "begin", "(LPictureFile;I)I"⟩
abbrev b_Lw_page : ByteArray := method_4_code
def y_Lw_page : MethodName := ⟨"PictureFileLaw", "page", "(LPictureFile;IIIII[J)I"⟩
abbrev b_Lw_strip : ByteArray := method_5_code
def y_Lw_strip : MethodName := ⟨"PictureFileLaw", "strip", "(LPictureFile;[J)I"⟩
abbrev b_Lw_close : ByteArray := method_6_code
def y_Lw_close : MethodName := ⟨"PictureFileLaw", "close", "(LPictureFile;[J)I"⟩
abbrev b_Lw_end : ByteArray := method_7_code
def y_Lw_end : MethodName := ⟨"PictureFileLaw", "end", "(LPictureFile;[J)I"⟩
abbrev b_Lw_read : ByteArray := method_8_code
def y_Lw_read : MethodName := ⟨"PictureFileLaw", "read", "(LPictureFile;[J)I"⟩
abbrev b_Lw_of : ByteArray := method_9_code
def y_Lw_of : MethodName := ⟨"PictureFileLaw", "of", "(LPictureFile;II[J)I"⟩
abbrev b_Lw_where : ByteArray := method_10_code
def y_Lw_where : MethodName := ⟨"PictureFileLaw", "where", "(LPictureFile;III[J)I"⟩
abbrev b_Lw_dots : ByteArray := method_11_code
def y_Lw_dots : MethodName := ⟨"PictureFileLaw", "dots", "(LPictureFile;III[J)I"⟩
abbrev b_copyOfB : ByteArray := prog_20_method_121_code
def y_copyOfB : MethodName := ⟨"java/util/Arrays", "copyOf", "([BI)[B"⟩
abbrev b_copyOfI : ByteArray := prog_20_method_123_code
def y_copyOfI : MethodName := ⟨"java/util/Arrays", "copyOf", "([II)[I"⟩
abbrev b_fillI : ByteArray := prog_20_method_103_code
def y_fillI : MethodName := ⟨"java/util/Arrays", "fill", "([II)V"⟩
-- the words that the methods ask of the tables
def BW0 : List Cond := [
  .constantLong "PictureFile" 53 8,
  .methodLink "PictureFile" 180 y_PF_isWithin,
  .code y_PF_isWithin b_PF_isWithin 6 (some .boolean),
  .initialized "PictureFile",
  .static y_PF_isWithin,
  .constantLong "PictureFile" 184 10000,
  .constantLong "PictureFile" 186 20000,
  .methodLink "PictureFile" 188 y_PF_stripsOf,
  .code y_PF_stripsOf b_PF_stripsOf 4 (some .long),
  .static y_PF_stripsOf,
  .constantLong "PictureFile" 192 512,
  .fieldLink "PictureFile$Row" 15 "PictureFile$Row" "size" "I",
  .fieldLink "PictureFile$Row" 11 "PictureFile$Row" "cells" "[B",
  .constant "PictureFile$Row" 19 65536,
  .methodLink "PictureFile$Row" 20 Lib.Math.min.name,
  .static Lib.Math.min.name,
  .initialized "java/lang/Math",
  .code Lib.Math.min.name Lib.Math.min.code 2 (some .int),
  .methodLink "PictureFile$Row" 26 y_copyOfB,
  .code y_copyOfB b_copyOfB 3 (some (.array .byte)),
  .initialized "java/util/Arrays",
  .static y_copyOfB,
  .methodLink "PictureFile$Row" 32 y_Row_at,
  .code y_Row_at b_Row_at 3 (some .int),
  .initialized "PictureFile$Row",
  .instanceMethod y_Row_at,
  .selects R_Row y_Row_at y_Row_at,
  .methodLink "PictureFile$Row" 36 y_Row_shiftOf,
  .code y_Row_shiftOf b_Row_shiftOf 3 (some .int),
  .static y_Row_shiftOf,
  .methodLink "PictureFile$Row" 40 y_Row_add,
  .code y_Row_add b_Row_add 2 none,
  .instanceMethod y_Row_add,
  .selects R_Row y_Row_add y_Row_add,
  .methodLink "PictureFile$Row" 44 y_Row_replace,
  .code y_Row_replace b_Row_replace 3 none,
  .instanceMethod y_Row_replace,
  .selects R_Row y_Row_replace y_Row_replace,
  .fieldLink "PictureFile$Strips" 9 "PictureFile$Strips" "cells" "[I",
  .fieldLink "PictureFile$Strips" 17 "PictureFile$Strips" "count" "I",
  .fieldLink "PictureFile$Strips" 13 "PictureFile$Strips" "most" "I",
  .methodLink "PictureFile$Strips" 20 Lib.Math.min.name,
  .methodLink "PictureFile$Strips" 26 y_copyOfI,
  .code y_copyOfI b_copyOfI 3 (some (.array .int)),
  .static y_copyOfI,
  .fieldLink "PictureFile$Maker" 20 "PictureFile$Maker" "file" "LPictureFile$Row;",
  .fieldLink "PictureFile$Maker" 28 "PictureFile$Maker" "order" "I",
  .methodLinkNest "PictureFile$Maker" 46 y_Row_append "PictureFile",
  .code y_Row_append b_Row_append 6 none,
  .instanceMethod y_Row_append,
  .selects R_Row y_Row_append y_Row_append,
  .fieldLink "PictureFile$Maker" 78 "PictureFile$Maker" "onPage" "Z",
  .fieldLink "PictureFile$Maker" 75 "PictureFile$Maker" "stripsDue" "I",
  .fieldLink "PictureFile$Maker" 81 "PictureFile$Maker" "stripBytes" "I",
  .fieldLink "PictureFile$Maker" 16 "PictureFile$Maker" "strips" "LPictureFile$Strips;",
  .fieldLinkNest "PictureFile$Maker" 84 "PictureFile$Strips" "count" "I" "PictureFile",
  .fieldLink "PictureFile$Maker" 24 "PictureFile$Maker" "making" "Z",
  .fieldLink "PictureFile$Maker" 32 "PictureFile$Maker" "pages" "I",
  .fieldLink "PictureFile$Maker" 35 "PictureFile$Maker" "link" "I",
  .methodLink "PictureFile$Maker" 38 y_Mk_leavePage,
  .code y_Mk_leavePage b_Mk_leavePage 1 none,
  .initialized "PictureFile$Maker",
  .instanceMethod y_Mk_leavePage,
  .selects R_Mk y_Mk_leavePage y_Mk_leavePage,
  .fieldLinkNest "PictureFile$Maker" 41 "PictureFile$Row" "size" "I" "PictureFile",
  .methodLink "PictureFile$Maker" 50 y_Mk_addShort,
  .code y_Mk_addShort b_Mk_addShort 2 none,
  .instanceMethod y_Mk_addShort,
  .selects R_Mk y_Mk_addShort y_Mk_addShort,
  .methodLink "PictureFile$Maker" 53 y_Mk_addLong,
  .code y_Mk_addLong b_Mk_addLong 2 none,
  .instanceMethod y_Mk_addLong,
  .selects R_Mk y_Mk_addLong y_Mk_addLong,
  .fieldLink "PictureFile$Maker" 56 "PictureFile$Maker" "width" "I",
  .fieldLink "PictureFile$Maker" 59 "PictureFile$Maker" "height" "I",
  .fieldLink "PictureFile$Maker" 62 "PictureFile$Maker" "rows" "I",
  .fieldLink "PictureFile$Maker" 65 "PictureFile$Maker" "across" "I",
  .fieldLink "PictureFile$Maker" 68 "PictureFile$Maker" "down" "I",
  .methodLinkNest "PictureFile$Maker" 71 y_PF_stripsOf "PictureFile",
  .constant "PictureFile$Maker" 87 60000,
  .methodLinkNest "PictureFile$Maker" 88 y_Row_makeEven "PictureFile",
  .code y_Row_makeEven b_Row_makeEven 1 none,
  .instanceMethod y_Row_makeEven,
  .selects R_Row y_Row_makeEven y_Row_makeEven,
  .methodLinkNest "PictureFile$Maker" 91 y_St_add "PictureFile",
  .code y_St_add b_St_add 4 none,
  .initialized "PictureFile$Strips",
  .instanceMethod y_St_add,
  .selects R_St y_St_add y_St_add,
  .methodLink "PictureFile$Maker" 95 y_Mk_hasLists,
  .code y_Mk_hasLists b_Mk_hasLists 1 (some .boolean),
  .instanceMethod y_Mk_hasLists,
  .selects R_Mk y_Mk_hasLists y_Mk_hasLists,
  .methodLinkNest "PictureFile$Maker" 112 y_St_get "PictureFile",
  .code y_St_get b_St_get 4 (some .int),
  .instanceMethod y_St_get,
  .selects R_St y_St_get y_St_get,
  .methodLink "PictureFile$Maker" 116 y_Mk_addEntry,
  .code y_Mk_addEntry b_Mk_addEntry 5 none,
  .instanceMethod y_Mk_addEntry,
  .selects R_Mk y_Mk_addEntry y_Mk_addEntry,
  .methodLink "PictureFile$Maker" 102 y_Mk_addFineness,
  .code y_Mk_addFineness b_Mk_addFineness 2 none,
  .instanceMethod y_Mk_addFineness,
  .selects R_Mk y_Mk_addFineness y_Mk_addFineness,
  .methodLink "PictureFile$Maker" 105 y_Mk_addDirectory,
  .code y_Mk_addDirectory b_Mk_addDirectory 4 none,
  .instanceMethod y_Mk_addDirectory,
  .selects R_Mk y_Mk_addDirectory y_Mk_addDirectory,
  .methodLinkNest "PictureFile$Maker" 108 y_Row_replaceLong "PictureFile",
  .code y_Row_replaceLong b_Row_replaceLong 6 none,
  .instanceMethod y_Row_replaceLong,
  .selects R_Row y_Row_replaceLong y_Row_replaceLong,
  .methodLink "PictureFile$Maker" 99 y_Mk_addList,
  .code y_Mk_addList b_Mk_addList 3 none,
  .instanceMethod y_Mk_addList,
  .selects R_Mk y_Mk_addList y_Mk_addList,
  .fieldLink "PictureFile$PageNumbers" 11 "PictureFile$PageNumbers" "cells" "[J",
  .methodLink "PictureFile$PageNumbers" 15 y_Pn_get,
  .code y_Pn_get b_Pn_get 4 (some .long),
  .initialized "PictureFile$PageNumbers",
  .instanceMethod y_Pn_get,
  .selects R_Pn y_Pn_get y_Pn_get,
  .constantLong "PictureFile$PageNumbers" 19 20000,
  .methodLinkNest "PictureFile$PageNumbers" 21 y_PF_isWithin "PictureFile",
  .constantLong "PictureFile$PageNumbers" 27 2,
  .constantLong "PictureFile$PageNumbers" 29 3,
  .constantLong "PictureFile$PageNumbers" 25 4,
  .fieldLink "PictureFile$Entries" 15 "PictureFile$Entries" "counts" "[I",
  .methodLink "PictureFile$Entries" 25 y_fillI,
  .code y_fillI b_fillI 4 none,
  .static y_fillI,
  .methodLink "PictureFile$Entries" 31 y_En_widestType,
  .code y_En_widestType b_En_widestType 1 (some .int),
  .initialized "PictureFile$Entries",
  .static y_En_widestType,
  .constantLong "PictureFile$Entries" 35 4096,
  .methodLinkNest "PictureFile$Entries" 37 y_PF_isWithin "PictureFile",
  .fieldLink "PictureFile$Entries" 11 "PictureFile$Entries" "types" "[I",
  .fieldLink "PictureFile$Entries" 18 "PictureFile$Entries" "places" "[I",
  .fieldLink "PictureFile$Entries" 21 "PictureFile$Entries" "file" "LPictureFile$Row;",
  .methodLinkNest "PictureFile$Entries" 41 y_Row_number "PictureFile",
  .code y_Row_number b_Row_number 8 (some .long),
  .instanceMethod y_Row_number,
  .selects R_Row y_Row_number y_Row_number,
  .methodLink "PictureFile$Entries" 47 y_En_canHaveType,
  .code y_En_canHaveType b_En_canHaveType 3 (some .boolean),
  .static y_En_canHaveType,
  .methodLink "PictureFile$Entries" 51 y_En_canHaveCount,
  .code y_En_canHaveCount b_En_canHaveCount 3 (some .boolean),
  .static y_En_canHaveCount,
  .methodLink "PictureFile$Entries" 55 y_En_bytesOf,
  .code y_En_bytesOf b_En_bytesOf 1 (some .int),
  .static y_En_bytesOf,
  .constantLong "PictureFile$Entries" 58 4,
  .fieldLinkNest "PictureFile$Entries" 60 "PictureFile$Row" "size" "I" "PictureFile",
  .methodLink "PictureFile$Entries" 64 y_En_keepEntry,
  .code y_En_keepEntry b_En_keepEntry 5 none,
  .instanceMethod y_En_keepEntry,
  .selects R_En y_En_keepEntry y_En_keepEntry,
  .methodLink "PictureFile$Entries" 68 y_En_countOf,
  .code y_En_countOf b_En_countOf 3 (some .int),
  .instanceMethod y_En_countOf,
  .selects R_En y_En_countOf y_En_countOf,
  .fieldLink "PictureFile$Reader" 44 "PictureFile$Reader" "pages" "I",
  .methodLink "PictureFile$Reader" 48 y_Rd_hasPage,
  .code y_Rd_hasPage b_Rd_hasPage 2 (some .boolean),
  .initialized "PictureFile$Reader",
  .instanceMethod y_Rd_hasPage,
  .selects R_Rd y_Rd_hasPage y_Rd_hasPage,
  .fieldLink "PictureFile$Reader" 12 "PictureFile$Reader" "numbers" "LPictureFile$PageNumbers;",
  .methodLinkNest "PictureFile$Reader" 52 y_Pn_get "PictureFile",
  .fieldLink "PictureFile$Reader" 27 "PictureFile$Reader" "firstStrips" "[I",
  .fieldLink "PictureFile$Reader" 23 "PictureFile$Reader" "strips" "LPictureFile$Strips;",
  .methodLinkNest "PictureFile$Reader" 56 y_St_get "PictureFile",
  .fieldLink "PictureFile$Reader" 59 "PictureFile$Reader" "faultKind" "I",
  .fieldLink "PictureFile$Reader" 62 "PictureFile$Reader" "faultPage" "I",
  .fieldLink "PictureFile$Reader" 65 "PictureFile$Reader" "faultTag" "I",
  .fieldLink "PictureFile$Reader" 68 "PictureFile$Reader" "faultStrip" "I",
  .fieldLink "PictureFile$Reader" 80 "PictureFile$Reader" "order" "I",
  .fieldLink "PictureFile$Reader" 89 "PictureFile$Reader" "current" "I",
  .fieldLinkNest "PictureFile$Reader" 100 "PictureFile$Strips" "count" "I" "PictureFile",
  .fieldLink "PictureFile$Reader" 31 "PictureFile$Reader" "file" "LPictureFile$Row;",
  .methodLinkNest "PictureFile$Reader" 103 y_Row_at "PictureFile",
  .fieldLinkNest "PictureFile$Reader" 107 "PictureFile$Row" "size" "I" "PictureFile",
  .methodLink "PictureFile$Reader" 117 y_Rd_refuse,
  .code y_Rd_refuse b_Rd_refuse 4 (some .boolean),
  .instanceMethod y_Rd_refuse,
  .selects R_Rd y_Rd_refuse y_Rd_refuse,
  .methodLinkNest "PictureFile$Reader" 110 y_PF_isOrder "PictureFile",
  .code y_PF_isOrder b_PF_isOrder 1 (some .boolean),
  .static y_PF_isOrder,
  .constantLong "PictureFile$Reader" 113 2,
  .methodLinkNest "PictureFile$Reader" 83 y_Row_number "PictureFile",
  .constantLong "PictureFile$Reader" 115 42,
  .methodLink "PictureFile$Reader" 136 y_Rd_entriesAt,
  .code y_Rd_entriesAt b_Rd_entriesAt 3 (some .int),
  .instanceMethod y_Rd_entriesAt,
  .selects R_Rd y_Rd_entriesAt y_Rd_entriesAt,
  .constantLong "PictureFile$Reader" 139 8,
  .methodLink "PictureFile$Reader" 96 y_Rd_linkOf,
  .code y_Rd_linkOf b_Rd_linkOf 3 (some .long),
  .instanceMethod y_Rd_linkOf,
  .selects R_Rd y_Rd_linkOf y_Rd_linkOf,
  .constantLong "PictureFile$Reader" 78 4,
  .fieldLink "PictureFile$Reader" 40 "PictureFile$Reader" "entries" "LPictureFile$Entries;",
  .methodLinkNest "PictureFile$Reader" 141 y_En_forgetAll "PictureFile",
  .code y_En_forgetAll b_En_forgetAll 1 none,
  .instanceMethod y_En_forgetAll,
  .selects R_En y_En_forgetAll y_En_forgetAll,
  .methodLinkNest "PictureFile$Reader" 142 y_En_take "PictureFile",
  .code y_En_take b_En_take 11 (some .int),
  .instanceMethod y_En_take,
  .selects R_En y_En_take y_En_take,
  .methodLinkNest "PictureFile$Reader" 146 y_En_firstMissing "PictureFile",
  .code y_En_firstMissing b_En_firstMissing 1 (some .int),
  .instanceMethod y_En_firstMissing,
  .selects R_En y_En_firstMissing y_En_firstMissing,
  .methodLinkNest "PictureFile$Reader" 172 y_Pn_set "PictureFile",
  .code y_Pn_set b_Pn_set 6 none,
  .instanceMethod y_Pn_set,
  .selects R_Pn y_Pn_set y_Pn_set,
  .methodLinkNest "PictureFile$Reader" 150 y_En_number "PictureFile",
  .code y_En_number b_En_number 8 (some .long),
  .instanceMethod y_En_number,
  .selects R_En y_En_number y_En_number,
  .methodLink "PictureFile$Reader" 153 y_Rd_keep,
  .code y_Rd_keep b_Rd_keep 4 none,
  .instanceMethod y_Rd_keep,
  .selects R_Rd y_Rd_keep y_Rd_keep,
  .constantLong "PictureFile$Reader" 157 300,
  .methodLink "PictureFile$Reader" 159 Lib.MathLoose.min_long.x,
  .static Lib.MathLoose.min_long.x,
  .code Lib.MathLoose.min_long.x Lib.MathLoose.min_long.code 4 (some .long),
  .methodLinkNest "PictureFile$Reader" 165 y_PF_stripsOf "PictureFile",
  .methodLinkNest "PictureFile$Reader" 168 y_Pn_wrongTag "PictureFile",
  .code y_Pn_wrongTag b_Pn_wrongTag 4 (some .int),
  .instanceMethod y_Pn_wrongTag,
  .selects R_Pn y_Pn_wrongTag y_Pn_wrongTag,
  .methodLinkNest "PictureFile$Reader" 183 y_En_countOf "PictureFile",
  .methodLink "PictureFile$Reader" 176 y_Rd_wrongCount,
  .code y_Rd_wrongCount b_Rd_wrongCount 2 (some .int),
  .instanceMethod y_Rd_wrongCount,
  .selects R_Rd y_Rd_wrongCount y_Rd_wrongCount,
  .methodLinkNest "PictureFile$Reader" 179 y_St_add "PictureFile",
  .methodLink "PictureFile$Reader" 121 y_Rd_isDirectory,
  .code y_Rd_isDirectory b_Rd_isDirectory 3 (some .boolean),
  .instanceMethod y_Rd_isDirectory,
  .selects R_Rd y_Rd_isDirectory y_Rd_isDirectory,
  .methodLink "PictureFile$Reader" 124 y_Rd_takeEntries,
  .code y_Rd_takeEntries b_Rd_takeEntries 8 (some .boolean),
  .instanceMethod y_Rd_takeEntries,
  .selects R_Rd y_Rd_takeEntries y_Rd_takeEntries,
  .methodLink "PictureFile$Reader" 127 y_Rd_hasNeededTags,
  .code y_Rd_hasNeededTags b_Rd_hasNeededTags 2 (some .boolean),
  .instanceMethod y_Rd_hasNeededTags,
  .selects R_Rd y_Rd_hasNeededTags y_Rd_hasNeededTags,
  .methodLink "PictureFile$Reader" 130 y_Rd_takeNumbers,
  .code y_Rd_takeNumbers b_Rd_takeNumbers 8 (some .boolean),
  .instanceMethod y_Rd_takeNumbers,
  .selects R_Rd y_Rd_takeNumbers y_Rd_takeNumbers,
  .methodLink "PictureFile$Reader" 133 y_Rd_takeStrips,
  .code y_Rd_takeStrips b_Rd_takeStrips 8 (some .boolean),
  .instanceMethod y_Rd_takeStrips,
  .selects R_Rd y_Rd_takeStrips y_Rd_takeStrips,
  .methodLink "PictureFile$Reader" 71 y_Rd_forgetAll,
  .code y_Rd_forgetAll b_Rd_forgetAll 1 none,
  .instanceMethod y_Rd_forgetAll,
  .selects R_Rd y_Rd_forgetAll y_Rd_forgetAll,
  .methodLink "PictureFile$Reader" 74 y_Rd_takeHead,
  .code y_Rd_takeHead b_Rd_takeHead 2 (some .boolean),
  .instanceMethod y_Rd_takeHead,
  .selects R_Rd y_Rd_takeHead y_Rd_takeHead,
  .methodLink "PictureFile$Reader" 92 y_Rd_takePage,
  .code y_Rd_takePage b_Rd_takePage 3 (some .boolean),
  .instanceMethod y_Rd_takePage,
  .selects R_Rd y_Rd_takePage y_Rd_takePage,
  .fieldLink "PictureFile" 21 "PictureFile" "maker" "LPictureFile$Maker;",
  .fieldLinkNest "PictureFile" 32 "PictureFile$Maker" "making" "Z" "PictureFile",
  .methodLink "PictureFile" 36 y_PF_isPartLength,
  .code y_PF_isPartLength b_PF_isPartLength 1 (some .boolean),
  .static y_PF_isPartLength,
  .fieldLink "PictureFile" 10 "PictureFile" "file" "LPictureFile$Row;",
  .fieldLinkNest "PictureFile" 40 "PictureFile$Row" "size" "I" "PictureFile",
  .constant "PictureFile" 44 65536,
  .methodLinkNest "PictureFile" 45 y_Row_append "PictureFile",
  .methodLinkNest "PictureFile" 49 y_Row_replace "PictureFile",
  .methodLinkNest "PictureFile" 55 y_Row_number "PictureFile",
  .methodLinkNest "PictureFile" 97 y_Mk_stripsToCome "PictureFile",
  .code y_Mk_stripsToCome b_Mk_stripsToCome 1 (some .int),
  .instanceMethod y_Mk_stripsToCome,
  .selects R_Mk y_Mk_stripsToCome y_Mk_stripsToCome,
  .methodLinkNest "PictureFile" 101 y_Mk_hasRoomFor "PictureFile",
  .code y_Mk_hasRoomFor b_Mk_hasRoomFor 3 (some .boolean),
  .instanceMethod y_Mk_hasRoomFor,
  .selects R_Mk y_Mk_hasRoomFor y_Mk_hasRoomFor,
  .methodLinkNest "PictureFile" 104 y_Mk_addToStrip "PictureFile",
  .code y_Mk_addToStrip b_Mk_addToStrip 4 none,
  .instanceMethod y_Mk_addToStrip,
  .selects R_Mk y_Mk_addToStrip y_Mk_addToStrip,
  .fieldLink "PictureFile" 28 "PictureFile" "reader" "LPictureFile$Reader;",
  .methodLinkNest "PictureFile" 132 y_Rd_faultNumber "PictureFile",
  .code y_Rd_faultNumber b_Rd_faultNumber 2 (some .int),
  .instanceMethod y_Rd_faultNumber,
  .selects R_Rd y_Rd_faultNumber y_Rd_faultNumber,
  .fieldLinkNest "PictureFile" 73 "PictureFile$Maker" "onPage" "Z" "PictureFile",
  .fieldLinkNest "PictureFile" 76 "PictureFile$Maker" "pages" "I" "PictureFile",
  .fieldLinkNest "PictureFile" 174 "PictureFile$Maker" "stripBytes" "I" "PictureFile",
  .fieldLinkNest "PictureFile" 131 "PictureFile$Reader" "pages" "I" "PictureFile",
  .fieldLinkNest "PictureFile" 177 "PictureFile$Reader" "order" "I" "PictureFile",
  .fieldLink "PictureFileModel" 37 "PictureFileModel" "thrown" "I",
  .fieldLink "PictureFileModel" 8 "PictureFileModel" "file" "[B",
  .fieldLink "PictureFileModel" 41 "PictureFileModel" "size" "I",
  .fieldLink "PictureFileModel" 58 "PictureFileModel" "order" "I",
  .methodLink "PictureFileModel" 50 y_Md_one,
  .code y_Md_one b_Md_one 2 none,
  .initialized "PictureFileModel",
  .instanceMethod y_Md_one,
  .selects R_Md y_Md_one y_Md_one,
  .methodLink "PictureFileModel" 61 y_Md_two,
  .code y_Md_two b_Md_two 2 none,
  .instanceMethod y_Md_two,
  .selects R_Md y_Md_two y_Md_two,
  .methodLink "PictureFileModel" 64 y_Md_four,
  .code y_Md_four b_Md_four 2 none,
  .instanceMethod y_Md_four,
  .selects R_Md y_Md_four y_Md_four,
  .fieldLink "PictureFileModel" 44 "PictureFileModel" "making" "Z",
  .fieldLink "PictureFileModel" 67 "PictureFileModel" "open" "Z",
  .fieldLink "PictureFileModel" 70 "PictureFileModel" "made" "I",
  .fieldLink "PictureFileModel" 73 "PictureFileModel" "link" "I",
  .fieldLink "PictureFileModel" 76 "PictureFileModel" "width" "I",
  .fieldLink "PictureFileModel" 79 "PictureFileModel" "height" "I",
  .fieldLink "PictureFileModel" 82 "PictureFileModel" "rows" "I",
  .fieldLink "PictureFileModel" 85 "PictureFileModel" "across" "I",
  .fieldLink "PictureFileModel" 88 "PictureFileModel" "down" "I",
  .fieldLink "PictureFileModel" 91 "PictureFileModel" "strips" "I",
  .fieldLink "PictureFileModel" 94 "PictureFileModel" "done" "I",
  .fieldLink "PictureFileModel" 97 "PictureFileModel" "length" "I",
  .fieldLink "PictureFileModel" 100 "PictureFileModel" "from" "I",
  .constant "PictureFileModel" 7 65536,
  .constantLong "PictureFileModel" 48 255,
  .methodLink "PictureFileModel" 54 y_Md_at,
  .code y_Md_at b_Md_at 2 (some .int),
  .instanceMethod y_Md_at,
  .selects R_Md y_Md_at y_Md_at,
  .constant "PictureFileModel" 103 60000,
  .methodLink "PictureFileModel" 104 y_Md_start,
  .code y_Md_start b_Md_start 1 none,
  .instanceMethod y_Md_start,
  .selects R_Md y_Md_start y_Md_start,
  .fieldLink "PictureFileModel" 14 "PictureFileModel" "places" "[I",
  .fieldLink "PictureFileModel" 18 "PictureFileModel" "lengths" "[I",
  .methodLink "PictureFileModel" 111 y_Md_entryOf,
  .code y_Md_entryOf b_Md_entryOf 5 none,
  .instanceMethod y_Md_entryOf,
  .selects R_Md y_Md_entryOf y_Md_entryOf,
  .methodLink "PictureFileModel" 107 y_Md_fourAt,
  .code y_Md_fourAt b_Md_fourAt 4 none,
  .instanceMethod y_Md_fourAt,
  .selects R_Md y_Md_fourAt y_Md_fourAt,
  .fieldLink "PictureFileModel" 115 "PictureFileModel" "wasOrder" "I",
  .methodLink "PictureFileModel" 118 y_Md_readTwo,
  .code y_Md_readTwo b_Md_readTwo 2 (some .int),
  .instanceMethod y_Md_readTwo,
  .selects R_Md y_Md_readTwo y_Md_readTwo,
  .constantLong "PictureFileModel" 121 65536,
  .fieldLink "PictureFileModel" 123 "PictureFileModel" "fault" "I",
  .fieldLink "PictureFileModel" 126 "PictureFileModel" "faultPage" "I",
  .fieldLink "PictureFileModel" 129 "PictureFileModel" "faultTag" "I",
  .fieldLink "PictureFileModel" 132 "PictureFileModel" "faultStrip" "I",
  .methodLink "PictureFileModel" 144 y_Md_wrong,
  .code y_Md_wrong b_Md_wrong 5 (some .boolean),
  .instanceMethod y_Md_wrong,
  .selects R_Md y_Md_wrong y_Md_wrong,
  .methodLink "PictureFileModel" 148 y_Md_sizeOf,
  .code y_Md_sizeOf b_Md_sizeOf 1 (some .int),
  .static y_Md_sizeOf,
  .constantLong "PictureFileModel" 151 4,
  .methodLink "PictureFileModel" 138 y_Md_readFour,
  .code y_Md_readFour b_Md_readFour 6 (some .long),
  .instanceMethod y_Md_readFour,
  .selects R_Md y_Md_readFour y_Md_readFour,
  .constantLong "PictureFileModel" 142 4096,
  .methodLink "PictureFileModel" 135 y_Md_known,
  .code y_Md_known b_Md_known 1 (some .int),
  .static y_Md_known,
  .fieldLink "PictureFileModel" 34 "PictureFileModel" "entry" "[I",
  .methodLink "PictureFileModel" 153 y_Md_value,
  .code y_Md_value b_Md_value 8 (some .long),
  .instanceMethod y_Md_value,
  .selects R_Md y_Md_value y_Md_value,
  .methodLink "PictureFileModel" 157 y_Md_sound,
  .code y_Md_sound b_Md_sound 13 (some .boolean),
  .instanceMethod y_Md_sound,
  .selects R_Md y_Md_sound y_Md_sound,
  .fieldLink "PictureFileModel" 25 "PictureFileModel" "firstStrip" "[I",
  .constantLong "PictureFileModel" 179 8,
  .fieldLink "PictureFileModel" 28 "PictureFileModel" "stripPlace" "[I",
  .fieldLink "PictureFileModel" 31 "PictureFileModel" "stripLength" "[I",
  .fieldLink "PictureFileModel" 21 "PictureFileModel" "numbers" "[J",
  .constantLong "PictureFileModel" 173 300,
  .methodLink "PictureFileModel" 161 y_Md_valueOr,
  .code y_Md_valueOr b_Md_valueOr 5 (some .long),
  .instanceMethod y_Md_valueOr,
  .selects R_Md y_Md_valueOr y_Md_valueOr,
  .methodLink "PictureFileModel" 175 y_Md_stripsOf,
  .code y_Md_stripsOf b_Md_stripsOf 8 (some .boolean),
  .instanceMethod y_Md_stripsOf,
  .selects R_Md y_Md_stripsOf y_Md_stripsOf,
  .constantLong "PictureFileModel" 171 8192,
  .constantLong "PictureFileModel" 165 2,
  .constantLong "PictureFileModel" 169 3,
  .constantLong "PictureFileModel" 167 20000,
  .constantLong "PictureFileModel" 181 12,
  .fieldLink "PictureFileModel" 183 "PictureFileModel" "pages" "I",
  .methodLink "PictureFileModel" 186 y_Md_lies,
  .code y_Md_lies b_Md_lies 4 (some .boolean),
  .instanceMethod y_Md_lies,
  .selects R_Md y_Md_lies y_Md_lies,
  .methodLink "PictureFileModel" 190 y_Md_entries,
  .code y_Md_entries b_Md_entries 8 (some .boolean),
  .instanceMethod y_Md_entries,
  .selects R_Md y_Md_entries y_Md_entries,
  .methodLink "PictureFileModel" 193 y_Md_values,
  .code y_Md_values b_Md_values 21 (some .boolean),
  .instanceMethod y_Md_values,
  .selects R_Md y_Md_values y_Md_values,
  .methodLink "PictureFileModel" 197 y_Md_gone,
  .code y_Md_gone b_Md_gone 6 none,
  .instanceMethod y_Md_gone,
  .selects R_Md y_Md_gone y_Md_gone,
  .methodLink "PictureFileModel" 200 y_Md_isStrip,
  .code y_Md_isStrip b_Md_isStrip 3 (some .boolean),
  .instanceMethod y_Md_isStrip,
  .selects R_Md y_Md_isStrip y_Md_isStrip,
  .methodLink "PictureFile$Row" 3 objectInit,
  .instanceMethod objectInit,
  .code objectInit ⟨#[0xb1]⟩ 1 none,
  .arrayClass .byte,
  .methodLink "PictureFile$Strips" 1 objectInit,
  .arrayClass .int,
  .methodLink "PictureFile$Maker" 5 objectInit,
  .classLink "PictureFile$Maker" 11 "PictureFile$Strips",
  .instantiable "PictureFile$Strips" 3,
  .methodLinkNest "PictureFile$Maker" 13 y_St_init "PictureFile",
  .code y_St_init b_St_init 2 none,
  .instanceMethod y_St_init,
  .methodLink "PictureFile$PageNumbers" 3 objectInit,
  .arrayClass .long,
  .methodLink "PictureFile$Entries" 3 objectInit,
  .methodLink "PictureFile$Reader" 3 objectInit,
  .classLink "PictureFile$Reader" 9 "PictureFile$PageNumbers",
  .instantiable "PictureFile$PageNumbers" 1,
  .methodLinkNest "PictureFile$Reader" 11 y_Pn_init "PictureFile",
  .code y_Pn_init b_Pn_init 1 none,
  .instanceMethod y_Pn_init,
  .classLink "PictureFile$Reader" 18 "PictureFile$Strips",
  .methodLinkNest "PictureFile$Reader" 20 y_St_init "PictureFile",
  .classLink "PictureFile$Reader" 35 "PictureFile$Entries",
  .instantiable "PictureFile$Entries" 4,
  .methodLinkNest "PictureFile$Reader" 37 y_En_init "PictureFile",
  .code y_En_init b_En_init 2 none,
  .instanceMethod y_En_init,
  .methodLink "PictureFile" 1 objectInit,
  .classLink "PictureFile" 7 "PictureFile$Row",
  .instantiable "PictureFile$Row" 2,
  .methodLinkNest "PictureFile" 9 y_Row_init "PictureFile",
  .code y_Row_init b_Row_init 1 none,
  .instanceMethod y_Row_init,
  .classLink "PictureFile" 16 "PictureFile$Maker",
  .instantiable "PictureFile$Maker" 14,
  .methodLinkNest "PictureFile" 18 y_Mk_init "PictureFile",
  .code y_Mk_init b_Mk_init 2 none,
  .instanceMethod y_Mk_init,
  .classLink "PictureFile" 25 "PictureFile$Reader",
  .instantiable "PictureFile$Reader" 12,
  .methodLinkNest "PictureFile" 27 y_Rd_init "PictureFile",
  .code y_Rd_init b_Rd_init 2 none,
  .instanceMethod y_Rd_init,
  .methodLink "PictureFileModel" 1 objectInit,
  .methodLink "PictureFile" 59 y_PF_isOrder,
  .classLink "PictureFile" 62 "java/lang/IllegalArgumentException",
  .initialized "java/lang/IllegalArgumentException",
  .methodLinkNest "PictureFile" 69 y_Mk_startFile "PictureFile",
  .code y_Mk_startFile b_Mk_startFile 2 none,
  .instanceMethod y_Mk_startFile,
  .selects R_Mk y_Mk_startFile y_Mk_startFile,
  .methodLink "PictureFile" 84 y_PF_isSheet,
  .code y_PF_isSheet b_PF_isSheet 3 (some .boolean),
  .static y_PF_isSheet,
  .methodLink "PictureFile" 88 y_PF_isFineness,
  .code y_PF_isFineness b_PF_isFineness 1 (some .boolean),
  .static y_PF_isFineness,
  .classLink "PictureFile" 79 "java/lang/IllegalStateException",
  .initialized "java/lang/IllegalStateException",
  .methodLinkNest "PictureFile" 93 y_Mk_startPage "PictureFile",
  .code y_Mk_startPage b_Mk_startPage 6 none,
  .instanceMethod y_Mk_startPage,
  .selects R_Mk y_Mk_startPage y_Mk_startPage,
  .methodLinkNest "PictureFile" 110 y_Mk_finishStrip "PictureFile",
  .code y_Mk_finishStrip b_Mk_finishStrip 1 none,
  .instanceMethod y_Mk_finishStrip,
  .selects R_Mk y_Mk_finishStrip y_Mk_finishStrip,
  .methodLinkNest "PictureFile" 113 y_Mk_sizeWithPage "PictureFile",
  .code y_Mk_sizeWithPage b_Mk_sizeWithPage 2 (some .int),
  .instanceMethod y_Mk_sizeWithPage,
  .selects R_Mk y_Mk_sizeWithPage y_Mk_sizeWithPage,
  .methodLinkNest "PictureFile" 118 y_Mk_finishPage "PictureFile",
  .code y_Mk_finishPage b_Mk_finishPage 4 none,
  .instanceMethod y_Mk_finishPage,
  .selects R_Mk y_Mk_finishPage y_Mk_finishPage,
  .methodLinkNest "PictureFile" 125 y_Rd_goThrough "PictureFile",
  .code y_Rd_goThrough b_Rd_goThrough 4 none,
  .instanceMethod y_Rd_goThrough,
  .selects R_Rd y_Rd_goThrough y_Rd_goThrough,
  .fieldLinkNest "PictureFile" 128 "PictureFile$Reader" "faultKind" "I" "PictureFile",
  .methodLinkNest "PictureFile" 136 y_Rd_hasPage "PictureFile",
  .classLink "PictureFile" 141 "java/lang/IndexOutOfBoundsException",
  .initialized "java/lang/IndexOutOfBoundsException",
  .fieldLinkNest "PictureFile" 146 "PictureFile$Reader" "numbers" "LPictureFile$PageNumbers;" "PictureFile",
  .methodLinkNest "PictureFile" 150 y_Pn_get "PictureFile",
  .methodLinkNest "PictureFile" 154 y_Rd_hasStrip "PictureFile",
  .code y_Rd_hasStrip b_Rd_hasStrip 3 (some .boolean),
  .instanceMethod y_Rd_hasStrip,
  .selects R_Rd y_Rd_hasStrip y_Rd_hasStrip,
  .methodLinkNest "PictureFile" 162 y_Rd_ofStrip "PictureFile",
  .code y_Rd_ofStrip b_Rd_ofStrip 4 (some .int),
  .instanceMethod y_Rd_ofStrip,
  .selects R_Rd y_Rd_ofStrip y_Rd_ofStrip,
  .methodLinkNest "PictureFile" 170 y_Row_at "PictureFile",
  .methodLink "PictureFileLaw" 7 y_PF_begin,
  .code y_PF_begin b_PF_begin 2 none,
  .instanceMethod y_PF_begin,
  .selects R_PF y_PF_begin y_PF_begin,
  .classLink "PictureFileLaw" 13 "java/lang/IllegalArgumentException",
  .castable "java/lang/IllegalArgumentException" "java/lang/IllegalArgumentException",
  .codeWith y_Lw_begin b_Lw_begin 3 (some .int) [(0, 5, 8, 13)],
  .methodLink "PictureFileLaw" 15 y_PF_page,
  .code y_PF_page b_PF_page 6 (some .int),
  .instanceMethod y_PF_page,
  .selects R_PF y_PF_page y_PF_page,
  .classLink "PictureFileLaw" 19 "java/lang/IllegalStateException",
  .castable "java/lang/IllegalStateException" "java/lang/IllegalStateException",
  .codeWith y_Lw_page b_Lw_page 8 (some .int) [(0, 16, 19, 19), (0, 16, 23, 13)],
  .methodLink "PictureFileLaw" 21 y_PF_strip,
  .code y_PF_strip b_PF_strip 1 (some .int),
  .instanceMethod y_PF_strip,
  .selects R_PF y_PF_strip y_PF_strip,
  .codeWith y_Lw_strip b_Lw_strip 3 (some .int) [(0, 8, 11, 19)],
  .methodLink "PictureFileLaw" 25 y_PF_close,
  .code y_PF_close b_PF_close 1 (some .int),
  .instanceMethod y_PF_close,
  .selects R_PF y_PF_close y_PF_close,
  .codeWith y_Lw_close b_Lw_close 3 (some .int) [(0, 8, 11, 19)],
  .methodLink "PictureFileLaw" 28 y_PF_end,
  .code y_PF_end b_PF_end 1 (some .int),
  .instanceMethod y_PF_end,
  .selects R_PF y_PF_end y_PF_end,
  .codeWith y_Lw_end b_Lw_end 3 (some .int) [(0, 8, 11, 19)],
  .methodLink "PictureFileLaw" 31 y_PF_read,
  .code y_PF_read b_PF_read 1 (some .int),
  .instanceMethod y_PF_read,
  .selects R_PF y_PF_read y_PF_read,
  .codeWith y_Lw_read b_Lw_read 3 (some .int) [(0, 8, 11, 19)],
  .methodLink "PictureFileLaw" 34 y_PF_of,
  .code y_PF_of b_PF_of 3 (some .long),
  .instanceMethod y_PF_of,
  .selects R_PF y_PF_of y_PF_of,
  .classLink "PictureFileLaw" 38 "java/lang/IndexOutOfBoundsException",
  .castable "java/lang/IndexOutOfBoundsException" "java/lang/IndexOutOfBoundsException",
  .codeWith y_Lw_of b_Lw_of 5 (some .int) [(0, 9, 12, 38)],
  .methodLink "PictureFileLaw" 40 y_PF_where,
  .code y_PF_where b_PF_where 4 (some .int),
  .instanceMethod y_PF_where,
  .selects R_PF y_PF_where y_PF_where,
  .codeWith y_Lw_where b_Lw_where 6 (some .int) [(0, 12, 15, 38)],
  .methodLink "PictureFileLaw" 44 y_PF_dots,
  .code y_PF_dots b_PF_dots 5 (some .int),
  .instanceMethod y_PF_dots,
  .selects R_PF y_PF_dots y_PF_dots,
  .codeWith y_Lw_dots b_Lw_dots 6 (some .int) [(0, 12, 15, 38)],
  .constantLong "PictureFileLaw" 51 4294967295,
  .methodLink "PictureFileLaw" 53 y_PF_give,
  .code y_PF_give b_PF_give 4 (some .boolean),
  .instanceMethod y_PF_give,
  .selects R_PF y_PF_give y_PF_give,
  .methodLink "PictureFileLaw" 57 y_Md_give,
  .code y_Md_give b_Md_give 5 (some .boolean),
  .instanceMethod y_Md_give,
  .selects R_Md y_Md_give y_Md_give,
  .methodLink "PictureFileLaw" 58 y_PF_poke,
  .code y_PF_poke b_PF_poke 3 (some .boolean),
  .instanceMethod y_PF_poke,
  .selects R_PF y_PF_poke y_PF_poke,
  .methodLink "PictureFileLaw" 62 y_Md_poke,
  .code y_Md_poke b_Md_poke 3 (some .boolean),
  .instanceMethod y_Md_poke,
  .selects R_Md y_Md_poke y_Md_poke,
  .methodLink "PictureFileLaw" 63 y_PF_cut,
  .code y_PF_cut b_PF_cut 2 (some .boolean),
  .instanceMethod y_PF_cut,
  .selects R_PF y_PF_cut y_PF_cut,
  .methodLink "PictureFileLaw" 67 y_Md_cut,
  .code y_Md_cut b_Md_cut 2 (some .boolean),
  .instanceMethod y_Md_cut,
  .selects R_Md y_Md_cut y_Md_cut,
  .methodLink "PictureFileLaw" 68 y_PF_bytes,
  .code y_PF_bytes b_PF_bytes 2 (some .long),
  .instanceMethod y_PF_bytes,
  .selects R_PF y_PF_bytes y_PF_bytes,
  .methodLink "PictureFileLaw" 72 y_Md_bytes,
  .code y_Md_bytes b_Md_bytes 6 (some .long),
  .instanceMethod y_Md_bytes,
  .selects R_Md y_Md_bytes y_Md_bytes,
  .methodLink "PictureFileLaw" 73 y_Lw_begin,
  .initialized "PictureFileLaw",
  .static y_Lw_begin,
  .methodLink "PictureFileLaw" 78 y_Md_begin,
  .code y_Md_begin b_Md_begin 2 none,
  .instanceMethod y_Md_begin,
  .selects R_Md y_Md_begin y_Md_begin,
  .methodLink "PictureFileLaw" 79 y_Md_thrown,
  .code y_Md_thrown b_Md_thrown 1 (some .int),
  .instanceMethod y_Md_thrown,
  .selects R_Md y_Md_thrown y_Md_thrown,
  .methodLink "PictureFileLaw" 82 y_Lw_page,
  .static y_Lw_page,
  .methodLink "PictureFileLaw" 85 y_Md_page,
  .code y_Md_page b_Md_page 8 (some .int),
  .instanceMethod y_Md_page,
  .selects R_Md y_Md_page y_Md_page,
  .methodLink "PictureFileLaw" 86 y_PF_put,
  .code y_PF_put b_PF_put 4 (some .boolean),
  .instanceMethod y_PF_put,
  .selects R_PF y_PF_put y_PF_put,
  .methodLink "PictureFileLaw" 89 y_Md_put,
  .code y_Md_put b_Md_put 6 (some .boolean),
  .instanceMethod y_Md_put,
  .selects R_Md y_Md_put y_Md_put,
  .methodLink "PictureFileLaw" 90 y_Lw_strip,
  .static y_Lw_strip,
  .methodLink "PictureFileLaw" 93 y_Md_strip,
  .code y_Md_strip b_Md_strip 1 (some .int),
  .instanceMethod y_Md_strip,
  .selects R_Md y_Md_strip y_Md_strip,
  .methodLink "PictureFileLaw" 94 y_Lw_close,
  .static y_Lw_close,
  .methodLink "PictureFileLaw" 96 y_Md_close,
  .code y_Md_close b_Md_close 4 (some .int),
  .instanceMethod y_Md_close,
  .selects R_Md y_Md_close y_Md_close,
  .methodLink "PictureFileLaw" 97 y_Lw_end,
  .static y_Lw_end,
  .methodLink "PictureFileLaw" 99 y_Md_end,
  .code y_Md_end b_Md_end 1 (some .int),
  .instanceMethod y_Md_end,
  .selects R_Md y_Md_end y_Md_end,
  .methodLink "PictureFileLaw" 100 y_Lw_read,
  .static y_Lw_read,
  .methodLink "PictureFileLaw" 102 y_Md_read,
  .code y_Md_read b_Md_read 3 (some .int),
  .instanceMethod y_Md_read,
  .selects R_Md y_Md_read y_Md_read,
  .methodLink "PictureFileLaw" 103 y_PF_fault,
  .code y_PF_fault b_PF_fault 2 (some .int),
  .instanceMethod y_PF_fault,
  .selects R_PF y_PF_fault y_PF_fault,
  .methodLink "PictureFileLaw" 107 y_Md_fault,
  .code y_Md_fault b_Md_fault 2 (some .int),
  .instanceMethod y_Md_fault,
  .selects R_Md y_Md_fault y_Md_fault,
  .methodLink "PictureFileLaw" 108 y_Lw_of,
  .static y_Lw_of,
  .methodLink "PictureFileLaw" 111 y_Md_of,
  .code y_Md_of b_Md_of 3 (some .long),
  .instanceMethod y_Md_of,
  .selects R_Md y_Md_of y_Md_of,
  .methodLink "PictureFileLaw" 112 y_Lw_where,
  .static y_Lw_where,
  .methodLink "PictureFileLaw" 115 y_Md_where,
  .code y_Md_where b_Md_where 4 (some .int),
  .instanceMethod y_Md_where,
  .selects R_Md y_Md_where y_Md_where,
  .methodLink "PictureFileLaw" 116 y_Lw_dots,
  .static y_Lw_dots,
  .methodLink "PictureFileLaw" 118 y_Md_dots,
  .code y_Md_dots b_Md_dots 5 (some .int),
  .instanceMethod y_Md_dots,
  .selects R_Md y_Md_dots y_Md_dots,
  .methodLink "PictureFileLaw" 119 y_PF_look,
  .code y_PF_look b_PF_look 2 (some .int),
  .instanceMethod y_PF_look,
  .selects R_PF y_PF_look y_PF_look,
  .methodLink "PictureFileLaw" 122 y_Md_look,
  .code y_Md_look b_Md_look 2 (some .int),
  .instanceMethod y_Md_look,
  .selects R_Md y_Md_look y_Md_look,
  .classLink "PictureFileLaw" 8 "PictureFile",
  .instantiable "PictureFile" 3,
  .methodLink "PictureFileLaw" 47 y_PF_init,
  .code y_PF_init b_PF_init 2 none,
  .instanceMethod y_PF_init,
  .classLink "PictureFileLaw" 48 "PictureFileModel",
  .instantiable "PictureFileModel" 30,
  .methodLink "PictureFileLaw" 50 y_Md_init,
  .code y_Md_init b_Md_init 1 none,
  .instanceMethod y_Md_init,
  .lays "PictureFile$Row" "PictureFile$Row" "cells" "[B",
  .lays "PictureFile$Row" "PictureFile$Row" "size" "I",
  .laysFinal "PictureFile$Strips" "PictureFile$Strips" "most" "I",
  .lays "PictureFile$Strips" "PictureFile$Strips" "cells" "[I",
  .lays "PictureFile$Strips" "PictureFile$Strips" "count" "I",
  .laysFinal "PictureFile$Maker" "PictureFile$Maker" "file" "LPictureFile$Row;",
  .laysFinal "PictureFile$Maker" "PictureFile$Maker" "strips" "LPictureFile$Strips;",
  .lays "PictureFile$Maker" "PictureFile$Maker" "making" "Z",
  .lays "PictureFile$Maker" "PictureFile$Maker" "onPage" "Z",
  .lays "PictureFile$Maker" "PictureFile$Maker" "order" "I",
  .lays "PictureFile$Maker" "PictureFile$Maker" "pages" "I",
  .lays "PictureFile$Maker" "PictureFile$Maker" "link" "I",
  .lays "PictureFile$Maker" "PictureFile$Maker" "width" "I",
  .lays "PictureFile$Maker" "PictureFile$Maker" "height" "I",
  .lays "PictureFile$Maker" "PictureFile$Maker" "rows" "I",
  .lays "PictureFile$Maker" "PictureFile$Maker" "across" "I",
  .lays "PictureFile$Maker" "PictureFile$Maker" "down" "I",
  .lays "PictureFile$Maker" "PictureFile$Maker" "stripsDue" "I",
  .lays "PictureFile$Maker" "PictureFile$Maker" "stripBytes" "I",
  .laysFinal "PictureFile$PageNumbers" "PictureFile$PageNumbers" "cells" "[J",
  .laysFinal "PictureFile$Entries" "PictureFile$Entries" "file" "LPictureFile$Row;",
  .laysFinal "PictureFile$Entries" "PictureFile$Entries" "types" "[I",
  .laysFinal "PictureFile$Entries" "PictureFile$Entries" "counts" "[I",
  .laysFinal "PictureFile$Entries" "PictureFile$Entries" "places" "[I",
  .laysFinal "PictureFile$Reader" "PictureFile$Reader" "file" "LPictureFile$Row;",
  .laysFinal "PictureFile$Reader" "PictureFile$Reader" "entries" "LPictureFile$Entries;",
  .laysFinal "PictureFile$Reader" "PictureFile$Reader" "numbers" "LPictureFile$PageNumbers;",
  .laysFinal "PictureFile$Reader" "PictureFile$Reader" "strips" "LPictureFile$Strips;",
  .laysFinal "PictureFile$Reader" "PictureFile$Reader" "firstStrips" "[I",
  .lays "PictureFile$Reader" "PictureFile$Reader" "pages" "I",
  .lays "PictureFile$Reader" "PictureFile$Reader" "order" "I",
  .lays "PictureFile$Reader" "PictureFile$Reader" "current" "I",
  .lays "PictureFile$Reader" "PictureFile$Reader" "faultKind" "I",
  .lays "PictureFile$Reader" "PictureFile$Reader" "faultPage" "I",
  .lays "PictureFile$Reader" "PictureFile$Reader" "faultTag" "I",
  .lays "PictureFile$Reader" "PictureFile$Reader" "faultStrip" "I",
  .laysFinal "PictureFile" "PictureFile" "file" "LPictureFile$Row;",
  .laysFinal "PictureFile" "PictureFile" "maker" "LPictureFile$Maker;",
  .laysFinal "PictureFile" "PictureFile" "reader" "LPictureFile$Reader;",
  .lays "PictureFileModel" "PictureFileModel" "thrown" "I",
  .laysFinal "PictureFileModel" "PictureFileModel" "file" "[B",
  .lays "PictureFileModel" "PictureFileModel" "size" "I",
  .lays "PictureFileModel" "PictureFileModel" "making" "Z",
  .lays "PictureFileModel" "PictureFileModel" "open" "Z",
  .lays "PictureFileModel" "PictureFileModel" "order" "I",
  .lays "PictureFileModel" "PictureFileModel" "made" "I",
  .lays "PictureFileModel" "PictureFileModel" "link" "I",
  .lays "PictureFileModel" "PictureFileModel" "width" "I",
  .lays "PictureFileModel" "PictureFileModel" "height" "I",
  .lays "PictureFileModel" "PictureFileModel" "rows" "I",
  .lays "PictureFileModel" "PictureFileModel" "across" "I",
  .lays "PictureFileModel" "PictureFileModel" "down" "I",
  .lays "PictureFileModel" "PictureFileModel" "strips" "I",
  .lays "PictureFileModel" "PictureFileModel" "done" "I",
  .lays "PictureFileModel" "PictureFileModel" "from" "I",
  .lays "PictureFileModel" "PictureFileModel" "length" "I",
  .laysFinal "PictureFileModel" "PictureFileModel" "places" "[I",
  .laysFinal "PictureFileModel" "PictureFileModel" "lengths" "[I",
  .lays "PictureFileModel" "PictureFileModel" "wasOrder" "I",
  .lays "PictureFileModel" "PictureFileModel" "pages" "I",
  .laysFinal "PictureFileModel" "PictureFileModel" "numbers" "[J",
  .laysFinal "PictureFileModel" "PictureFileModel" "firstStrip" "[I",
  .laysFinal "PictureFileModel" "PictureFileModel" "stripPlace" "[I",
  .laysFinal "PictureFileModel" "PictureFileModel" "stripLength" "[I",
  .lays "PictureFileModel" "PictureFileModel" "fault" "I",
  .lays "PictureFileModel" "PictureFileModel" "faultPage" "I",
  .lays "PictureFileModel" "PictureFileModel" "faultTag" "I",
  .lays "PictureFileModel" "PictureFileModel" "faultStrip" "I",
  .laysFinal "PictureFileModel" "PictureFileModel" "entry" "[I",
  .methodLink "java/util/Arrays" 304 Lib.Math.min.name,
  .methodLink "java/util/Arrays" 150 arraycopyName,
  .native arraycopyName,
  .static arraycopyName,
  .initialized "java/lang/System"]
def AT_IAE : List Cond := Bundle.ownAtoms "PictureFile" 66 "java/lang/IllegalArgumentException" ["java/lang/RuntimeException", "java/lang/Exception"]
def AT_ISE : List Cond := Bundle.ownAtoms "PictureFile" 83 "java/lang/IllegalStateException" ["java/lang/RuntimeException", "java/lang/Exception"]
def AT_IOE : List Cond := Bundle.ownAtoms "PictureFile" 145 "java/lang/IndexOutOfBoundsException" ["java/lang/RuntimeException", "java/lang/Exception"]
def isR (w : Cond) : Bool := match w with | .isRef _ => true | .laysStatic .. => true | _ => false
def BW : List Cond := BW0 ++ AT_IAE.filter (fun w => !isR w) ++ AT_ISE.filter (fun w => !isR w) ++ AT_IOE.filter (fun w => !isR w)
theorem bw0 {w : Cond} (h : w ∈ BW0) : w ∈ BW := by unfold BW; simp only [List.mem_append]; simp only [h, true_or]
theorem in0_Row : ∀ w ∈ u_ws R_Row F_Row 2, w ∈ BW0 := by decide +kernel
theorem in0_St : ∀ w ∈ u_ws R_St F_St 3, w ∈ BW0 := by decide +kernel
theorem in0_Mk : ∀ w ∈ u_ws R_Mk F_Mk 14, w ∈ BW0 := by decide +kernel
theorem in0_Pn : ∀ w ∈ u_ws R_Pn F_Pn 1, w ∈ BW0 := by decide +kernel
theorem in0_En : ∀ w ∈ u_ws R_En F_En 4, w ∈ BW0 := by decide +kernel
theorem in0_Rd : ∀ w ∈ u_ws R_Rd F_Rd 12, w ∈ BW0 := by decide +kernel
theorem in0_PF : ∀ w ∈ u_ws R_PF F_PF 3, w ∈ BW0 := by decide +kernel
theorem in0_Md : ∀ w ∈ u_ws R_Md F_Md 30, w ∈ BW0 := by decide +kernel
theorem bw_ok : ∀ w ∈ BW, wk_ok w = true := by decide +kernel
def TS : List (String × Nat × String) := [("PictureFile", 64, "the order is not 73 or 77"), ("PictureFile", 91, "there can be no such page"), ("PictureFile", 81, "no page can be begun now"), ("PictureFile", 108, "no strip is being made"), ("PictureFile", 116, "no page can be closed now"), ("PictureFile", 121, "no file can be ended now"), ("PictureFile", 123, "a file is being made"), ("PictureFile", 143, "no such page or number"), ("PictureFile", 160, "no such strip or number"), ("PictureFile", 166, "no such byte of a strip"), ("PictureFile", 168, "the file has no such byte any more")]
theorem kw_0 : (.constantLong "PictureFile" 53 8 : Cond) ∈ BW := bw0 (List.mem_of_getElem? (l := BW0) (i := 0) rfl)
theorem kw_1 : (.methodLink "PictureFile" 180 y_PF_isWithin : Cond) ∈ BW := bw0 (List.mem_of_getElem? (l := BW0) (i := 1) rfl)
theorem kw_2 : (.code y_PF_isWithin b_PF_isWithin 6 (some .boolean) : Cond) ∈ BW := bw0 (List.mem_of_getElem? (l := BW0) (i := 2) rfl)
theorem kw_3 : (.initialized "PictureFile" : Cond) ∈ BW := bw0 (List.mem_of_getElem? (l := BW0) (i := 3) rfl)
theorem kw_4 : (.static y_PF_isWithin : Cond) ∈ BW := bw0 (List.mem_of_getElem? (l := BW0) (i := 4) rfl)
theorem kw_5 : (.constantLong "PictureFile" 184 10000 : Cond) ∈ BW := bw0 (List.mem_of_getElem? (l := BW0) (i := 5) rfl)
theorem kw_6 : (.constantLong "PictureFile" 186 20000 : Cond) ∈ BW := bw0 (List.mem_of_getElem? (l := BW0) (i := 6) rfl)
theorem kw_7 : (.methodLink "PictureFile" 188 y_PF_stripsOf : Cond) ∈ BW := bw0 (List.mem_of_getElem? (l := BW0) (i := 7) rfl)
theorem kw_8 : (.code y_PF_stripsOf b_PF_stripsOf 4 (some .long) : Cond) ∈ BW := bw0 (List.mem_of_getElem? (l := BW0) (i := 8) rfl)
theorem kw_9 : (.static y_PF_stripsOf : Cond) ∈ BW := bw0 (List.mem_of_getElem? (l := BW0) (i := 9) rfl)
theorem kw_10 : (.constantLong "PictureFile" 192 512 : Cond) ∈ BW := bw0 (List.mem_of_getElem? (l := BW0) (i := 10) rfl)
theorem kw_11 : (.fieldLink "PictureFile$Row" 15 "PictureFile$Row" "size" "I" : Cond) ∈ BW := bw0 (List.mem_of_getElem? (l := BW0) (i := 11) rfl)
theorem kw_12 : (.fieldLink "PictureFile$Row" 11 "PictureFile$Row" "cells" "[B" : Cond) ∈ BW := bw0 (List.mem_of_getElem? (l := BW0) (i := 12) rfl)
theorem kw_13 : (.constant "PictureFile$Row" 19 65536 : Cond) ∈ BW := bw0 (List.mem_of_getElem? (l := BW0) (i := 13) rfl)
theorem kw_14 : (.methodLink "PictureFile$Row" 20 Lib.Math.min.name : Cond) ∈ BW := bw0 (List.mem_of_getElem? (l := BW0) (i := 14) rfl)
theorem kw_15 : (.static Lib.Math.min.name : Cond) ∈ BW := bw0 (List.mem_of_getElem? (l := BW0) (i := 15) rfl)
theorem kw_16 : (.initialized "java/lang/Math" : Cond) ∈ BW := bw0 (List.mem_of_getElem? (l := BW0) (i := 16) rfl)
theorem kw_17 : (.code Lib.Math.min.name Lib.Math.min.code 2 (some .int) : Cond) ∈ BW := bw0 (List.mem_of_getElem? (l := BW0) (i := 17) rfl)
theorem kw_18 : (.methodLink "PictureFile$Row" 26 y_copyOfB : Cond) ∈ BW := bw0 (List.mem_of_getElem? (l := BW0) (i := 18) rfl)
theorem kw_19 : (.code y_copyOfB b_copyOfB 3 (some (.array .byte)) : Cond) ∈ BW := bw0 (List.mem_of_getElem? (l := BW0) (i := 19) rfl)
theorem kw_20 : (.initialized "java/util/Arrays" : Cond) ∈ BW := bw0 (List.mem_of_getElem? (l := BW0) (i := 20) rfl)
theorem kw_21 : (.static y_copyOfB : Cond) ∈ BW := bw0 (List.mem_of_getElem? (l := BW0) (i := 21) rfl)
theorem kw_22 : (.methodLink "PictureFile$Row" 32 y_Row_at : Cond) ∈ BW := bw0 (List.mem_of_getElem? (l := BW0) (i := 22) rfl)
theorem kw_23 : (.code y_Row_at b_Row_at 3 (some .int) : Cond) ∈ BW := bw0 (List.mem_of_getElem? (l := BW0) (i := 23) rfl)
theorem kw_24 : (.initialized "PictureFile$Row" : Cond) ∈ BW := bw0 (List.mem_of_getElem? (l := BW0) (i := 24) rfl)
theorem kw_25 : (.instanceMethod y_Row_at : Cond) ∈ BW := bw0 (List.mem_of_getElem? (l := BW0) (i := 25) rfl)
theorem kw_26 : (.selects R_Row y_Row_at y_Row_at : Cond) ∈ BW := bw0 (List.mem_of_getElem? (l := BW0) (i := 26) rfl)
theorem kw_27 : (.methodLink "PictureFile$Row" 36 y_Row_shiftOf : Cond) ∈ BW := bw0 (List.mem_of_getElem? (l := BW0) (i := 27) rfl)
theorem kw_28 : (.code y_Row_shiftOf b_Row_shiftOf 3 (some .int) : Cond) ∈ BW := bw0 (List.mem_of_getElem? (l := BW0) (i := 28) rfl)
theorem kw_29 : (.static y_Row_shiftOf : Cond) ∈ BW := bw0 (List.mem_of_getElem? (l := BW0) (i := 29) rfl)
theorem kw_30 : (.methodLink "PictureFile$Row" 40 y_Row_add : Cond) ∈ BW := bw0 (List.mem_of_getElem? (l := BW0) (i := 30) rfl)
theorem kw_31 : (.code y_Row_add b_Row_add 2 none : Cond) ∈ BW := bw0 (List.mem_of_getElem? (l := BW0) (i := 31) rfl)
theorem kw_32 : (.instanceMethod y_Row_add : Cond) ∈ BW := bw0 (List.mem_of_getElem? (l := BW0) (i := 32) rfl)
theorem kw_33 : (.selects R_Row y_Row_add y_Row_add : Cond) ∈ BW := bw0 (List.mem_of_getElem? (l := BW0) (i := 33) rfl)
theorem kw_34 : (.methodLink "PictureFile$Row" 44 y_Row_replace : Cond) ∈ BW := bw0 (List.mem_of_getElem? (l := BW0) (i := 34) rfl)
theorem kw_35 : (.code y_Row_replace b_Row_replace 3 none : Cond) ∈ BW := bw0 (List.mem_of_getElem? (l := BW0) (i := 35) rfl)
theorem kw_36 : (.instanceMethod y_Row_replace : Cond) ∈ BW := bw0 (List.mem_of_getElem? (l := BW0) (i := 36) rfl)
theorem kw_37 : (.selects R_Row y_Row_replace y_Row_replace : Cond) ∈ BW := bw0 (List.mem_of_getElem? (l := BW0) (i := 37) rfl)
theorem kw_38 : (.fieldLink "PictureFile$Strips" 9 "PictureFile$Strips" "cells" "[I" : Cond) ∈ BW := bw0 (List.mem_of_getElem? (l := BW0) (i := 38) rfl)
theorem kw_39 : (.fieldLink "PictureFile$Strips" 17 "PictureFile$Strips" "count" "I" : Cond) ∈ BW := bw0 (List.mem_of_getElem? (l := BW0) (i := 39) rfl)
theorem kw_40 : (.fieldLink "PictureFile$Strips" 13 "PictureFile$Strips" "most" "I" : Cond) ∈ BW := bw0 (List.mem_of_getElem? (l := BW0) (i := 40) rfl)
theorem kw_41 : (.methodLink "PictureFile$Strips" 20 Lib.Math.min.name : Cond) ∈ BW := bw0 (List.mem_of_getElem? (l := BW0) (i := 41) rfl)
theorem kw_42 : (.methodLink "PictureFile$Strips" 26 y_copyOfI : Cond) ∈ BW := bw0 (List.mem_of_getElem? (l := BW0) (i := 42) rfl)
theorem kw_43 : (.code y_copyOfI b_copyOfI 3 (some (.array .int)) : Cond) ∈ BW := bw0 (List.mem_of_getElem? (l := BW0) (i := 43) rfl)
theorem kw_44 : (.static y_copyOfI : Cond) ∈ BW := bw0 (List.mem_of_getElem? (l := BW0) (i := 44) rfl)
theorem kw_45 : (.fieldLink "PictureFile$Maker" 20 "PictureFile$Maker" "file" "LPictureFile$Row;" : Cond) ∈ BW := bw0 (List.mem_of_getElem? (l := BW0) (i := 45) rfl)
theorem kw_46 : (.fieldLink "PictureFile$Maker" 28 "PictureFile$Maker" "order" "I" : Cond) ∈ BW := bw0 (List.mem_of_getElem? (l := BW0) (i := 46) rfl)
theorem kw_47 : (.methodLinkNest "PictureFile$Maker" 46 y_Row_append "PictureFile" : Cond) ∈ BW := bw0 (List.mem_of_getElem? (l := BW0) (i := 47) rfl)
theorem kw_48 : (.code y_Row_append b_Row_append 6 none : Cond) ∈ BW := bw0 (List.mem_of_getElem? (l := BW0) (i := 48) rfl)
theorem kw_49 : (.instanceMethod y_Row_append : Cond) ∈ BW := bw0 (List.mem_of_getElem? (l := BW0) (i := 49) rfl)
theorem kw_50 : (.selects R_Row y_Row_append y_Row_append : Cond) ∈ BW := bw0 (List.mem_of_getElem? (l := BW0) (i := 50) rfl)
theorem kw_51 : (.fieldLink "PictureFile$Maker" 78 "PictureFile$Maker" "onPage" "Z" : Cond) ∈ BW := bw0 (List.mem_of_getElem? (l := BW0) (i := 51) rfl)
theorem kw_52 : (.fieldLink "PictureFile$Maker" 75 "PictureFile$Maker" "stripsDue" "I" : Cond) ∈ BW := bw0 (List.mem_of_getElem? (l := BW0) (i := 52) rfl)
theorem kw_53 : (.fieldLink "PictureFile$Maker" 81 "PictureFile$Maker" "stripBytes" "I" : Cond) ∈ BW := bw0 (List.mem_of_getElem? (l := BW0) (i := 53) rfl)
theorem kw_54 : (.fieldLink "PictureFile$Maker" 16 "PictureFile$Maker" "strips" "LPictureFile$Strips;" : Cond) ∈ BW := bw0 (List.mem_of_getElem? (l := BW0) (i := 54) rfl)
theorem kw_55 : (.fieldLinkNest "PictureFile$Maker" 84 "PictureFile$Strips" "count" "I" "PictureFile" : Cond) ∈ BW := bw0 (List.mem_of_getElem? (l := BW0) (i := 55) rfl)
theorem kw_56 : (.fieldLink "PictureFile$Maker" 24 "PictureFile$Maker" "making" "Z" : Cond) ∈ BW := bw0 (List.mem_of_getElem? (l := BW0) (i := 56) rfl)
theorem kw_57 : (.fieldLink "PictureFile$Maker" 32 "PictureFile$Maker" "pages" "I" : Cond) ∈ BW := bw0 (List.mem_of_getElem? (l := BW0) (i := 57) rfl)
theorem kw_58 : (.fieldLink "PictureFile$Maker" 35 "PictureFile$Maker" "link" "I" : Cond) ∈ BW := bw0 (List.mem_of_getElem? (l := BW0) (i := 58) rfl)
theorem kw_59 : (.methodLink "PictureFile$Maker" 38 y_Mk_leavePage : Cond) ∈ BW := bw0 (List.mem_of_getElem? (l := BW0) (i := 59) rfl)
theorem kw_60 : (.code y_Mk_leavePage b_Mk_leavePage 1 none : Cond) ∈ BW := bw0 (List.mem_of_getElem? (l := BW0) (i := 60) rfl)
theorem kw_61 : (.initialized "PictureFile$Maker" : Cond) ∈ BW := bw0 (List.mem_of_getElem? (l := BW0) (i := 61) rfl)
theorem kw_62 : (.instanceMethod y_Mk_leavePage : Cond) ∈ BW := bw0 (List.mem_of_getElem? (l := BW0) (i := 62) rfl)
theorem kw_63 : (.selects R_Mk y_Mk_leavePage y_Mk_leavePage : Cond) ∈ BW := bw0 (List.mem_of_getElem? (l := BW0) (i := 63) rfl)
theorem kw_64 : (.fieldLinkNest "PictureFile$Maker" 41 "PictureFile$Row" "size" "I" "PictureFile" : Cond) ∈ BW := bw0 (List.mem_of_getElem? (l := BW0) (i := 64) rfl)
theorem kw_65 : (.methodLink "PictureFile$Maker" 50 y_Mk_addShort : Cond) ∈ BW := bw0 (List.mem_of_getElem? (l := BW0) (i := 65) rfl)
theorem kw_66 : (.code y_Mk_addShort b_Mk_addShort 2 none : Cond) ∈ BW := bw0 (List.mem_of_getElem? (l := BW0) (i := 66) rfl)
theorem kw_67 : (.instanceMethod y_Mk_addShort : Cond) ∈ BW := bw0 (List.mem_of_getElem? (l := BW0) (i := 67) rfl)
theorem kw_68 : (.selects R_Mk y_Mk_addShort y_Mk_addShort : Cond) ∈ BW := bw0 (List.mem_of_getElem? (l := BW0) (i := 68) rfl)
theorem kw_69 : (.methodLink "PictureFile$Maker" 53 y_Mk_addLong : Cond) ∈ BW := bw0 (List.mem_of_getElem? (l := BW0) (i := 69) rfl)
theorem kw_70 : (.code y_Mk_addLong b_Mk_addLong 2 none : Cond) ∈ BW := bw0 (List.mem_of_getElem? (l := BW0) (i := 70) rfl)
theorem kw_71 : (.instanceMethod y_Mk_addLong : Cond) ∈ BW := bw0 (List.mem_of_getElem? (l := BW0) (i := 71) rfl)
theorem kw_72 : (.selects R_Mk y_Mk_addLong y_Mk_addLong : Cond) ∈ BW := bw0 (List.mem_of_getElem? (l := BW0) (i := 72) rfl)
theorem kw_73 : (.fieldLink "PictureFile$Maker" 56 "PictureFile$Maker" "width" "I" : Cond) ∈ BW := bw0 (List.mem_of_getElem? (l := BW0) (i := 73) rfl)
theorem kw_74 : (.fieldLink "PictureFile$Maker" 59 "PictureFile$Maker" "height" "I" : Cond) ∈ BW := bw0 (List.mem_of_getElem? (l := BW0) (i := 74) rfl)
theorem kw_75 : (.fieldLink "PictureFile$Maker" 62 "PictureFile$Maker" "rows" "I" : Cond) ∈ BW := bw0 (List.mem_of_getElem? (l := BW0) (i := 75) rfl)
theorem kw_76 : (.fieldLink "PictureFile$Maker" 65 "PictureFile$Maker" "across" "I" : Cond) ∈ BW := bw0 (List.mem_of_getElem? (l := BW0) (i := 76) rfl)
theorem kw_77 : (.fieldLink "PictureFile$Maker" 68 "PictureFile$Maker" "down" "I" : Cond) ∈ BW := bw0 (List.mem_of_getElem? (l := BW0) (i := 77) rfl)
theorem kw_78 : (.methodLinkNest "PictureFile$Maker" 71 y_PF_stripsOf "PictureFile" : Cond) ∈ BW := bw0 (List.mem_of_getElem? (l := BW0) (i := 78) rfl)
theorem kw_79 : (.constant "PictureFile$Maker" 87 60000 : Cond) ∈ BW := bw0 (List.mem_of_getElem? (l := BW0) (i := 79) rfl)
theorem kw_80 : (.methodLinkNest "PictureFile$Maker" 88 y_Row_makeEven "PictureFile" : Cond) ∈ BW := bw0 (List.mem_of_getElem? (l := BW0) (i := 80) rfl)
theorem kw_81 : (.code y_Row_makeEven b_Row_makeEven 1 none : Cond) ∈ BW := bw0 (List.mem_of_getElem? (l := BW0) (i := 81) rfl)
theorem kw_82 : (.instanceMethod y_Row_makeEven : Cond) ∈ BW := bw0 (List.mem_of_getElem? (l := BW0) (i := 82) rfl)
theorem kw_83 : (.selects R_Row y_Row_makeEven y_Row_makeEven : Cond) ∈ BW := bw0 (List.mem_of_getElem? (l := BW0) (i := 83) rfl)
theorem kw_84 : (.methodLinkNest "PictureFile$Maker" 91 y_St_add "PictureFile" : Cond) ∈ BW := bw0 (List.mem_of_getElem? (l := BW0) (i := 84) rfl)
theorem kw_85 : (.code y_St_add b_St_add 4 none : Cond) ∈ BW := bw0 (List.mem_of_getElem? (l := BW0) (i := 85) rfl)
theorem kw_86 : (.initialized "PictureFile$Strips" : Cond) ∈ BW := bw0 (List.mem_of_getElem? (l := BW0) (i := 86) rfl)
theorem kw_87 : (.instanceMethod y_St_add : Cond) ∈ BW := bw0 (List.mem_of_getElem? (l := BW0) (i := 87) rfl)
theorem kw_88 : (.selects R_St y_St_add y_St_add : Cond) ∈ BW := bw0 (List.mem_of_getElem? (l := BW0) (i := 88) rfl)
theorem kw_89 : (.methodLink "PictureFile$Maker" 95 y_Mk_hasLists : Cond) ∈ BW := bw0 (List.mem_of_getElem? (l := BW0) (i := 89) rfl)
theorem kw_90 : (.code y_Mk_hasLists b_Mk_hasLists 1 (some .boolean) : Cond) ∈ BW := bw0 (List.mem_of_getElem? (l := BW0) (i := 90) rfl)
theorem kw_91 : (.instanceMethod y_Mk_hasLists : Cond) ∈ BW := bw0 (List.mem_of_getElem? (l := BW0) (i := 91) rfl)
theorem kw_92 : (.selects R_Mk y_Mk_hasLists y_Mk_hasLists : Cond) ∈ BW := bw0 (List.mem_of_getElem? (l := BW0) (i := 92) rfl)
theorem kw_93 : (.methodLinkNest "PictureFile$Maker" 112 y_St_get "PictureFile" : Cond) ∈ BW := bw0 (List.mem_of_getElem? (l := BW0) (i := 93) rfl)
theorem kw_94 : (.code y_St_get b_St_get 4 (some .int) : Cond) ∈ BW := bw0 (List.mem_of_getElem? (l := BW0) (i := 94) rfl)
theorem kw_95 : (.instanceMethod y_St_get : Cond) ∈ BW := bw0 (List.mem_of_getElem? (l := BW0) (i := 95) rfl)
theorem kw_96 : (.selects R_St y_St_get y_St_get : Cond) ∈ BW := bw0 (List.mem_of_getElem? (l := BW0) (i := 96) rfl)
theorem kw_97 : (.methodLink "PictureFile$Maker" 116 y_Mk_addEntry : Cond) ∈ BW := bw0 (List.mem_of_getElem? (l := BW0) (i := 97) rfl)
theorem kw_98 : (.code y_Mk_addEntry b_Mk_addEntry 5 none : Cond) ∈ BW := bw0 (List.mem_of_getElem? (l := BW0) (i := 98) rfl)
theorem kw_99 : (.instanceMethod y_Mk_addEntry : Cond) ∈ BW := bw0 (List.mem_of_getElem? (l := BW0) (i := 99) rfl)
theorem kw_100 : (.selects R_Mk y_Mk_addEntry y_Mk_addEntry : Cond) ∈ BW := bw0 (List.mem_of_getElem? (l := BW0) (i := 100) rfl)
theorem kw_101 : (.methodLink "PictureFile$Maker" 102 y_Mk_addFineness : Cond) ∈ BW := bw0 (List.mem_of_getElem? (l := BW0) (i := 101) rfl)
theorem kw_102 : (.code y_Mk_addFineness b_Mk_addFineness 2 none : Cond) ∈ BW := bw0 (List.mem_of_getElem? (l := BW0) (i := 102) rfl)
theorem kw_103 : (.instanceMethod y_Mk_addFineness : Cond) ∈ BW := bw0 (List.mem_of_getElem? (l := BW0) (i := 103) rfl)
theorem kw_104 : (.selects R_Mk y_Mk_addFineness y_Mk_addFineness : Cond) ∈ BW := bw0 (List.mem_of_getElem? (l := BW0) (i := 104) rfl)
theorem kw_105 : (.methodLink "PictureFile$Maker" 105 y_Mk_addDirectory : Cond) ∈ BW := bw0 (List.mem_of_getElem? (l := BW0) (i := 105) rfl)
theorem kw_106 : (.code y_Mk_addDirectory b_Mk_addDirectory 4 none : Cond) ∈ BW := bw0 (List.mem_of_getElem? (l := BW0) (i := 106) rfl)
theorem kw_107 : (.instanceMethod y_Mk_addDirectory : Cond) ∈ BW := bw0 (List.mem_of_getElem? (l := BW0) (i := 107) rfl)
theorem kw_108 : (.selects R_Mk y_Mk_addDirectory y_Mk_addDirectory : Cond) ∈ BW := bw0 (List.mem_of_getElem? (l := BW0) (i := 108) rfl)
theorem kw_109 : (.methodLinkNest "PictureFile$Maker" 108 y_Row_replaceLong "PictureFile" : Cond) ∈ BW := bw0 (List.mem_of_getElem? (l := BW0) (i := 109) rfl)
theorem kw_110 : (.code y_Row_replaceLong b_Row_replaceLong 6 none : Cond) ∈ BW := bw0 (List.mem_of_getElem? (l := BW0) (i := 110) rfl)
theorem kw_111 : (.instanceMethod y_Row_replaceLong : Cond) ∈ BW := bw0 (List.mem_of_getElem? (l := BW0) (i := 111) rfl)
theorem kw_112 : (.selects R_Row y_Row_replaceLong y_Row_replaceLong : Cond) ∈ BW := bw0 (List.mem_of_getElem? (l := BW0) (i := 112) rfl)
theorem kw_113 : (.methodLink "PictureFile$Maker" 99 y_Mk_addList : Cond) ∈ BW := bw0 (List.mem_of_getElem? (l := BW0) (i := 113) rfl)
theorem kw_114 : (.code y_Mk_addList b_Mk_addList 3 none : Cond) ∈ BW := bw0 (List.mem_of_getElem? (l := BW0) (i := 114) rfl)
theorem kw_115 : (.instanceMethod y_Mk_addList : Cond) ∈ BW := bw0 (List.mem_of_getElem? (l := BW0) (i := 115) rfl)
theorem kw_116 : (.selects R_Mk y_Mk_addList y_Mk_addList : Cond) ∈ BW := bw0 (List.mem_of_getElem? (l := BW0) (i := 116) rfl)
theorem kw_117 : (.fieldLink "PictureFile$PageNumbers" 11 "PictureFile$PageNumbers" "cells" "[J" : Cond) ∈ BW := bw0 (List.mem_of_getElem? (l := BW0) (i := 117) rfl)
theorem kw_118 : (.methodLink "PictureFile$PageNumbers" 15 y_Pn_get : Cond) ∈ BW := bw0 (List.mem_of_getElem? (l := BW0) (i := 118) rfl)
theorem kw_119 : (.code y_Pn_get b_Pn_get 4 (some .long) : Cond) ∈ BW := bw0 (List.mem_of_getElem? (l := BW0) (i := 119) rfl)
theorem kw_120 : (.initialized "PictureFile$PageNumbers" : Cond) ∈ BW := bw0 (List.mem_of_getElem? (l := BW0) (i := 120) rfl)
theorem kw_121 : (.instanceMethod y_Pn_get : Cond) ∈ BW := bw0 (List.mem_of_getElem? (l := BW0) (i := 121) rfl)
theorem kw_122 : (.selects R_Pn y_Pn_get y_Pn_get : Cond) ∈ BW := bw0 (List.mem_of_getElem? (l := BW0) (i := 122) rfl)
theorem kw_123 : (.constantLong "PictureFile$PageNumbers" 19 20000 : Cond) ∈ BW := bw0 (List.mem_of_getElem? (l := BW0) (i := 123) rfl)
theorem kw_124 : (.methodLinkNest "PictureFile$PageNumbers" 21 y_PF_isWithin "PictureFile" : Cond) ∈ BW := bw0 (List.mem_of_getElem? (l := BW0) (i := 124) rfl)
theorem kw_125 : (.constantLong "PictureFile$PageNumbers" 27 2 : Cond) ∈ BW := bw0 (List.mem_of_getElem? (l := BW0) (i := 125) rfl)
theorem kw_126 : (.constantLong "PictureFile$PageNumbers" 29 3 : Cond) ∈ BW := bw0 (List.mem_of_getElem? (l := BW0) (i := 126) rfl)
theorem kw_127 : (.constantLong "PictureFile$PageNumbers" 25 4 : Cond) ∈ BW := bw0 (List.mem_of_getElem? (l := BW0) (i := 127) rfl)
theorem kw_128 : (.fieldLink "PictureFile$Entries" 15 "PictureFile$Entries" "counts" "[I" : Cond) ∈ BW := bw0 (List.mem_of_getElem? (l := BW0) (i := 128) rfl)
theorem kw_129 : (.methodLink "PictureFile$Entries" 25 y_fillI : Cond) ∈ BW := bw0 (List.mem_of_getElem? (l := BW0) (i := 129) rfl)
theorem kw_130 : (.code y_fillI b_fillI 4 none : Cond) ∈ BW := bw0 (List.mem_of_getElem? (l := BW0) (i := 130) rfl)
theorem kw_131 : (.static y_fillI : Cond) ∈ BW := bw0 (List.mem_of_getElem? (l := BW0) (i := 131) rfl)
theorem kw_132 : (.methodLink "PictureFile$Entries" 31 y_En_widestType : Cond) ∈ BW := bw0 (List.mem_of_getElem? (l := BW0) (i := 132) rfl)
theorem kw_133 : (.code y_En_widestType b_En_widestType 1 (some .int) : Cond) ∈ BW := bw0 (List.mem_of_getElem? (l := BW0) (i := 133) rfl)
theorem kw_134 : (.initialized "PictureFile$Entries" : Cond) ∈ BW := bw0 (List.mem_of_getElem? (l := BW0) (i := 134) rfl)
theorem kw_135 : (.static y_En_widestType : Cond) ∈ BW := bw0 (List.mem_of_getElem? (l := BW0) (i := 135) rfl)
theorem kw_136 : (.constantLong "PictureFile$Entries" 35 4096 : Cond) ∈ BW := bw0 (List.mem_of_getElem? (l := BW0) (i := 136) rfl)
theorem kw_137 : (.methodLinkNest "PictureFile$Entries" 37 y_PF_isWithin "PictureFile" : Cond) ∈ BW := bw0 (List.mem_of_getElem? (l := BW0) (i := 137) rfl)
theorem kw_138 : (.fieldLink "PictureFile$Entries" 11 "PictureFile$Entries" "types" "[I" : Cond) ∈ BW := bw0 (List.mem_of_getElem? (l := BW0) (i := 138) rfl)
theorem kw_139 : (.fieldLink "PictureFile$Entries" 18 "PictureFile$Entries" "places" "[I" : Cond) ∈ BW := bw0 (List.mem_of_getElem? (l := BW0) (i := 139) rfl)
theorem kw_140 : (.fieldLink "PictureFile$Entries" 21 "PictureFile$Entries" "file" "LPictureFile$Row;" : Cond) ∈ BW := bw0 (List.mem_of_getElem? (l := BW0) (i := 140) rfl)
theorem kw_141 : (.methodLinkNest "PictureFile$Entries" 41 y_Row_number "PictureFile" : Cond) ∈ BW := bw0 (List.mem_of_getElem? (l := BW0) (i := 141) rfl)
theorem kw_142 : (.code y_Row_number b_Row_number 8 (some .long) : Cond) ∈ BW := bw0 (List.mem_of_getElem? (l := BW0) (i := 142) rfl)
theorem kw_143 : (.instanceMethod y_Row_number : Cond) ∈ BW := bw0 (List.mem_of_getElem? (l := BW0) (i := 143) rfl)
theorem kw_144 : (.selects R_Row y_Row_number y_Row_number : Cond) ∈ BW := bw0 (List.mem_of_getElem? (l := BW0) (i := 144) rfl)
theorem kw_145 : (.methodLink "PictureFile$Entries" 47 y_En_canHaveType : Cond) ∈ BW := bw0 (List.mem_of_getElem? (l := BW0) (i := 145) rfl)
theorem kw_146 : (.code y_En_canHaveType b_En_canHaveType 3 (some .boolean) : Cond) ∈ BW := bw0 (List.mem_of_getElem? (l := BW0) (i := 146) rfl)
theorem kw_147 : (.static y_En_canHaveType : Cond) ∈ BW := bw0 (List.mem_of_getElem? (l := BW0) (i := 147) rfl)
theorem kw_148 : (.methodLink "PictureFile$Entries" 51 y_En_canHaveCount : Cond) ∈ BW := bw0 (List.mem_of_getElem? (l := BW0) (i := 148) rfl)
theorem kw_149 : (.code y_En_canHaveCount b_En_canHaveCount 3 (some .boolean) : Cond) ∈ BW := bw0 (List.mem_of_getElem? (l := BW0) (i := 149) rfl)
theorem kw_150 : (.static y_En_canHaveCount : Cond) ∈ BW := bw0 (List.mem_of_getElem? (l := BW0) (i := 150) rfl)
theorem kw_151 : (.methodLink "PictureFile$Entries" 55 y_En_bytesOf : Cond) ∈ BW := bw0 (List.mem_of_getElem? (l := BW0) (i := 151) rfl)
theorem kw_152 : (.code y_En_bytesOf b_En_bytesOf 1 (some .int) : Cond) ∈ BW := bw0 (List.mem_of_getElem? (l := BW0) (i := 152) rfl)
theorem kw_153 : (.static y_En_bytesOf : Cond) ∈ BW := bw0 (List.mem_of_getElem? (l := BW0) (i := 153) rfl)
theorem kw_154 : (.constantLong "PictureFile$Entries" 58 4 : Cond) ∈ BW := bw0 (List.mem_of_getElem? (l := BW0) (i := 154) rfl)
theorem kw_155 : (.fieldLinkNest "PictureFile$Entries" 60 "PictureFile$Row" "size" "I" "PictureFile" : Cond) ∈ BW := bw0 (List.mem_of_getElem? (l := BW0) (i := 155) rfl)
theorem kw_156 : (.methodLink "PictureFile$Entries" 64 y_En_keepEntry : Cond) ∈ BW := bw0 (List.mem_of_getElem? (l := BW0) (i := 156) rfl)
theorem kw_157 : (.code y_En_keepEntry b_En_keepEntry 5 none : Cond) ∈ BW := bw0 (List.mem_of_getElem? (l := BW0) (i := 157) rfl)
theorem kw_158 : (.instanceMethod y_En_keepEntry : Cond) ∈ BW := bw0 (List.mem_of_getElem? (l := BW0) (i := 158) rfl)
theorem kw_159 : (.selects R_En y_En_keepEntry y_En_keepEntry : Cond) ∈ BW := bw0 (List.mem_of_getElem? (l := BW0) (i := 159) rfl)
theorem kw_160 : (.methodLink "PictureFile$Entries" 68 y_En_countOf : Cond) ∈ BW := bw0 (List.mem_of_getElem? (l := BW0) (i := 160) rfl)
theorem kw_161 : (.code y_En_countOf b_En_countOf 3 (some .int) : Cond) ∈ BW := bw0 (List.mem_of_getElem? (l := BW0) (i := 161) rfl)
theorem kw_162 : (.instanceMethod y_En_countOf : Cond) ∈ BW := bw0 (List.mem_of_getElem? (l := BW0) (i := 162) rfl)
theorem kw_163 : (.selects R_En y_En_countOf y_En_countOf : Cond) ∈ BW := bw0 (List.mem_of_getElem? (l := BW0) (i := 163) rfl)
theorem kw_164 : (.fieldLink "PictureFile$Reader" 44 "PictureFile$Reader" "pages" "I" : Cond) ∈ BW := bw0 (List.mem_of_getElem? (l := BW0) (i := 164) rfl)
theorem kw_165 : (.methodLink "PictureFile$Reader" 48 y_Rd_hasPage : Cond) ∈ BW := bw0 (List.mem_of_getElem? (l := BW0) (i := 165) rfl)
theorem kw_166 : (.code y_Rd_hasPage b_Rd_hasPage 2 (some .boolean) : Cond) ∈ BW := bw0 (List.mem_of_getElem? (l := BW0) (i := 166) rfl)
theorem kw_167 : (.initialized "PictureFile$Reader" : Cond) ∈ BW := bw0 (List.mem_of_getElem? (l := BW0) (i := 167) rfl)
theorem kw_168 : (.instanceMethod y_Rd_hasPage : Cond) ∈ BW := bw0 (List.mem_of_getElem? (l := BW0) (i := 168) rfl)
theorem kw_169 : (.selects R_Rd y_Rd_hasPage y_Rd_hasPage : Cond) ∈ BW := bw0 (List.mem_of_getElem? (l := BW0) (i := 169) rfl)
theorem kw_170 : (.fieldLink "PictureFile$Reader" 12 "PictureFile$Reader" "numbers" "LPictureFile$PageNumbers;" : Cond) ∈ BW := bw0 (List.mem_of_getElem? (l := BW0) (i := 170) rfl)
theorem kw_171 : (.methodLinkNest "PictureFile$Reader" 52 y_Pn_get "PictureFile" : Cond) ∈ BW := bw0 (List.mem_of_getElem? (l := BW0) (i := 171) rfl)
theorem kw_172 : (.fieldLink "PictureFile$Reader" 27 "PictureFile$Reader" "firstStrips" "[I" : Cond) ∈ BW := bw0 (List.mem_of_getElem? (l := BW0) (i := 172) rfl)
theorem kw_173 : (.fieldLink "PictureFile$Reader" 23 "PictureFile$Reader" "strips" "LPictureFile$Strips;" : Cond) ∈ BW := bw0 (List.mem_of_getElem? (l := BW0) (i := 173) rfl)
theorem kw_174 : (.methodLinkNest "PictureFile$Reader" 56 y_St_get "PictureFile" : Cond) ∈ BW := bw0 (List.mem_of_getElem? (l := BW0) (i := 174) rfl)
theorem kw_175 : (.fieldLink "PictureFile$Reader" 59 "PictureFile$Reader" "faultKind" "I" : Cond) ∈ BW := bw0 (List.mem_of_getElem? (l := BW0) (i := 175) rfl)
theorem kw_176 : (.fieldLink "PictureFile$Reader" 62 "PictureFile$Reader" "faultPage" "I" : Cond) ∈ BW := bw0 (List.mem_of_getElem? (l := BW0) (i := 176) rfl)
theorem kw_177 : (.fieldLink "PictureFile$Reader" 65 "PictureFile$Reader" "faultTag" "I" : Cond) ∈ BW := bw0 (List.mem_of_getElem? (l := BW0) (i := 177) rfl)
theorem kw_178 : (.fieldLink "PictureFile$Reader" 68 "PictureFile$Reader" "faultStrip" "I" : Cond) ∈ BW := bw0 (List.mem_of_getElem? (l := BW0) (i := 178) rfl)
theorem kw_179 : (.fieldLink "PictureFile$Reader" 80 "PictureFile$Reader" "order" "I" : Cond) ∈ BW := bw0 (List.mem_of_getElem? (l := BW0) (i := 179) rfl)
theorem kw_180 : (.fieldLink "PictureFile$Reader" 89 "PictureFile$Reader" "current" "I" : Cond) ∈ BW := bw0 (List.mem_of_getElem? (l := BW0) (i := 180) rfl)
theorem kw_181 : (.fieldLinkNest "PictureFile$Reader" 100 "PictureFile$Strips" "count" "I" "PictureFile" : Cond) ∈ BW := bw0 (List.mem_of_getElem? (l := BW0) (i := 181) rfl)
theorem kw_182 : (.fieldLink "PictureFile$Reader" 31 "PictureFile$Reader" "file" "LPictureFile$Row;" : Cond) ∈ BW := bw0 (List.mem_of_getElem? (l := BW0) (i := 182) rfl)
theorem kw_183 : (.methodLinkNest "PictureFile$Reader" 103 y_Row_at "PictureFile" : Cond) ∈ BW := bw0 (List.mem_of_getElem? (l := BW0) (i := 183) rfl)
theorem kw_184 : (.fieldLinkNest "PictureFile$Reader" 107 "PictureFile$Row" "size" "I" "PictureFile" : Cond) ∈ BW := bw0 (List.mem_of_getElem? (l := BW0) (i := 184) rfl)
theorem kw_185 : (.methodLink "PictureFile$Reader" 117 y_Rd_refuse : Cond) ∈ BW := bw0 (List.mem_of_getElem? (l := BW0) (i := 185) rfl)
theorem kw_186 : (.code y_Rd_refuse b_Rd_refuse 4 (some .boolean) : Cond) ∈ BW := bw0 (List.mem_of_getElem? (l := BW0) (i := 186) rfl)
theorem kw_187 : (.instanceMethod y_Rd_refuse : Cond) ∈ BW := bw0 (List.mem_of_getElem? (l := BW0) (i := 187) rfl)
theorem kw_188 : (.selects R_Rd y_Rd_refuse y_Rd_refuse : Cond) ∈ BW := bw0 (List.mem_of_getElem? (l := BW0) (i := 188) rfl)
theorem kw_189 : (.methodLinkNest "PictureFile$Reader" 110 y_PF_isOrder "PictureFile" : Cond) ∈ BW := bw0 (List.mem_of_getElem? (l := BW0) (i := 189) rfl)
theorem kw_190 : (.code y_PF_isOrder b_PF_isOrder 1 (some .boolean) : Cond) ∈ BW := bw0 (List.mem_of_getElem? (l := BW0) (i := 190) rfl)
theorem kw_191 : (.static y_PF_isOrder : Cond) ∈ BW := bw0 (List.mem_of_getElem? (l := BW0) (i := 191) rfl)
theorem kw_192 : (.constantLong "PictureFile$Reader" 113 2 : Cond) ∈ BW := bw0 (List.mem_of_getElem? (l := BW0) (i := 192) rfl)
theorem kw_193 : (.methodLinkNest "PictureFile$Reader" 83 y_Row_number "PictureFile" : Cond) ∈ BW := bw0 (List.mem_of_getElem? (l := BW0) (i := 193) rfl)
theorem kw_194 : (.constantLong "PictureFile$Reader" 115 42 : Cond) ∈ BW := bw0 (List.mem_of_getElem? (l := BW0) (i := 194) rfl)
theorem kw_195 : (.methodLink "PictureFile$Reader" 136 y_Rd_entriesAt : Cond) ∈ BW := bw0 (List.mem_of_getElem? (l := BW0) (i := 195) rfl)
theorem kw_196 : (.code y_Rd_entriesAt b_Rd_entriesAt 3 (some .int) : Cond) ∈ BW := bw0 (List.mem_of_getElem? (l := BW0) (i := 196) rfl)
theorem kw_197 : (.instanceMethod y_Rd_entriesAt : Cond) ∈ BW := bw0 (List.mem_of_getElem? (l := BW0) (i := 197) rfl)
theorem kw_198 : (.selects R_Rd y_Rd_entriesAt y_Rd_entriesAt : Cond) ∈ BW := bw0 (List.mem_of_getElem? (l := BW0) (i := 198) rfl)
theorem kw_199 : (.constantLong "PictureFile$Reader" 139 8 : Cond) ∈ BW := bw0 (List.mem_of_getElem? (l := BW0) (i := 199) rfl)
theorem kw_200 : (.methodLink "PictureFile$Reader" 96 y_Rd_linkOf : Cond) ∈ BW := bw0 (List.mem_of_getElem? (l := BW0) (i := 200) rfl)
theorem kw_201 : (.code y_Rd_linkOf b_Rd_linkOf 3 (some .long) : Cond) ∈ BW := bw0 (List.mem_of_getElem? (l := BW0) (i := 201) rfl)
theorem kw_202 : (.instanceMethod y_Rd_linkOf : Cond) ∈ BW := bw0 (List.mem_of_getElem? (l := BW0) (i := 202) rfl)
theorem kw_203 : (.selects R_Rd y_Rd_linkOf y_Rd_linkOf : Cond) ∈ BW := bw0 (List.mem_of_getElem? (l := BW0) (i := 203) rfl)
theorem kw_204 : (.constantLong "PictureFile$Reader" 78 4 : Cond) ∈ BW := bw0 (List.mem_of_getElem? (l := BW0) (i := 204) rfl)
theorem kw_205 : (.fieldLink "PictureFile$Reader" 40 "PictureFile$Reader" "entries" "LPictureFile$Entries;" : Cond) ∈ BW := bw0 (List.mem_of_getElem? (l := BW0) (i := 205) rfl)
theorem kw_206 : (.methodLinkNest "PictureFile$Reader" 141 y_En_forgetAll "PictureFile" : Cond) ∈ BW := bw0 (List.mem_of_getElem? (l := BW0) (i := 206) rfl)
theorem kw_207 : (.code y_En_forgetAll b_En_forgetAll 1 none : Cond) ∈ BW := bw0 (List.mem_of_getElem? (l := BW0) (i := 207) rfl)
theorem kw_208 : (.instanceMethod y_En_forgetAll : Cond) ∈ BW := bw0 (List.mem_of_getElem? (l := BW0) (i := 208) rfl)
theorem kw_209 : (.selects R_En y_En_forgetAll y_En_forgetAll : Cond) ∈ BW := bw0 (List.mem_of_getElem? (l := BW0) (i := 209) rfl)
theorem kw_210 : (.methodLinkNest "PictureFile$Reader" 142 y_En_take "PictureFile" : Cond) ∈ BW := bw0 (List.mem_of_getElem? (l := BW0) (i := 210) rfl)
theorem kw_211 : (.code y_En_take b_En_take 11 (some .int) : Cond) ∈ BW := bw0 (List.mem_of_getElem? (l := BW0) (i := 211) rfl)
theorem kw_212 : (.instanceMethod y_En_take : Cond) ∈ BW := bw0 (List.mem_of_getElem? (l := BW0) (i := 212) rfl)
theorem kw_213 : (.selects R_En y_En_take y_En_take : Cond) ∈ BW := bw0 (List.mem_of_getElem? (l := BW0) (i := 213) rfl)
theorem kw_214 : (.methodLinkNest "PictureFile$Reader" 146 y_En_firstMissing "PictureFile" : Cond) ∈ BW := bw0 (List.mem_of_getElem? (l := BW0) (i := 214) rfl)
theorem kw_215 : (.code y_En_firstMissing b_En_firstMissing 1 (some .int) : Cond) ∈ BW := bw0 (List.mem_of_getElem? (l := BW0) (i := 215) rfl)
theorem kw_216 : (.instanceMethod y_En_firstMissing : Cond) ∈ BW := bw0 (List.mem_of_getElem? (l := BW0) (i := 216) rfl)
theorem kw_217 : (.selects R_En y_En_firstMissing y_En_firstMissing : Cond) ∈ BW := bw0 (List.mem_of_getElem? (l := BW0) (i := 217) rfl)
theorem kw_218 : (.methodLinkNest "PictureFile$Reader" 172 y_Pn_set "PictureFile" : Cond) ∈ BW := bw0 (List.mem_of_getElem? (l := BW0) (i := 218) rfl)
theorem kw_219 : (.code y_Pn_set b_Pn_set 6 none : Cond) ∈ BW := bw0 (List.mem_of_getElem? (l := BW0) (i := 219) rfl)
theorem kw_220 : (.instanceMethod y_Pn_set : Cond) ∈ BW := bw0 (List.mem_of_getElem? (l := BW0) (i := 220) rfl)
theorem kw_221 : (.selects R_Pn y_Pn_set y_Pn_set : Cond) ∈ BW := bw0 (List.mem_of_getElem? (l := BW0) (i := 221) rfl)
theorem kw_222 : (.methodLinkNest "PictureFile$Reader" 150 y_En_number "PictureFile" : Cond) ∈ BW := bw0 (List.mem_of_getElem? (l := BW0) (i := 222) rfl)
theorem kw_223 : (.code y_En_number b_En_number 8 (some .long) : Cond) ∈ BW := bw0 (List.mem_of_getElem? (l := BW0) (i := 223) rfl)
theorem kw_224 : (.instanceMethod y_En_number : Cond) ∈ BW := bw0 (List.mem_of_getElem? (l := BW0) (i := 224) rfl)
theorem kw_225 : (.selects R_En y_En_number y_En_number : Cond) ∈ BW := bw0 (List.mem_of_getElem? (l := BW0) (i := 225) rfl)
theorem kw_226 : (.methodLink "PictureFile$Reader" 153 y_Rd_keep : Cond) ∈ BW := bw0 (List.mem_of_getElem? (l := BW0) (i := 226) rfl)
theorem kw_227 : (.code y_Rd_keep b_Rd_keep 4 none : Cond) ∈ BW := bw0 (List.mem_of_getElem? (l := BW0) (i := 227) rfl)
theorem kw_228 : (.instanceMethod y_Rd_keep : Cond) ∈ BW := bw0 (List.mem_of_getElem? (l := BW0) (i := 228) rfl)
theorem kw_229 : (.selects R_Rd y_Rd_keep y_Rd_keep : Cond) ∈ BW := bw0 (List.mem_of_getElem? (l := BW0) (i := 229) rfl)
theorem kw_230 : (.constantLong "PictureFile$Reader" 157 300 : Cond) ∈ BW := bw0 (List.mem_of_getElem? (l := BW0) (i := 230) rfl)
theorem kw_231 : (.methodLink "PictureFile$Reader" 159 Lib.MathLoose.min_long.x : Cond) ∈ BW := bw0 (List.mem_of_getElem? (l := BW0) (i := 231) rfl)
theorem kw_232 : (.static Lib.MathLoose.min_long.x : Cond) ∈ BW := bw0 (List.mem_of_getElem? (l := BW0) (i := 232) rfl)
theorem kw_233 : (.code Lib.MathLoose.min_long.x Lib.MathLoose.min_long.code 4 (some .long) : Cond) ∈ BW := bw0 (List.mem_of_getElem? (l := BW0) (i := 233) rfl)
theorem kw_234 : (.methodLinkNest "PictureFile$Reader" 165 y_PF_stripsOf "PictureFile" : Cond) ∈ BW := bw0 (List.mem_of_getElem? (l := BW0) (i := 234) rfl)
theorem kw_235 : (.methodLinkNest "PictureFile$Reader" 168 y_Pn_wrongTag "PictureFile" : Cond) ∈ BW := bw0 (List.mem_of_getElem? (l := BW0) (i := 235) rfl)
theorem kw_236 : (.code y_Pn_wrongTag b_Pn_wrongTag 4 (some .int) : Cond) ∈ BW := bw0 (List.mem_of_getElem? (l := BW0) (i := 236) rfl)
theorem kw_237 : (.instanceMethod y_Pn_wrongTag : Cond) ∈ BW := bw0 (List.mem_of_getElem? (l := BW0) (i := 237) rfl)
theorem kw_238 : (.selects R_Pn y_Pn_wrongTag y_Pn_wrongTag : Cond) ∈ BW := bw0 (List.mem_of_getElem? (l := BW0) (i := 238) rfl)
theorem kw_239 : (.methodLinkNest "PictureFile$Reader" 183 y_En_countOf "PictureFile" : Cond) ∈ BW := bw0 (List.mem_of_getElem? (l := BW0) (i := 239) rfl)
theorem kw_240 : (.methodLink "PictureFile$Reader" 176 y_Rd_wrongCount : Cond) ∈ BW := bw0 (List.mem_of_getElem? (l := BW0) (i := 240) rfl)
theorem kw_241 : (.code y_Rd_wrongCount b_Rd_wrongCount 2 (some .int) : Cond) ∈ BW := bw0 (List.mem_of_getElem? (l := BW0) (i := 241) rfl)
theorem kw_242 : (.instanceMethod y_Rd_wrongCount : Cond) ∈ BW := bw0 (List.mem_of_getElem? (l := BW0) (i := 242) rfl)
theorem kw_243 : (.selects R_Rd y_Rd_wrongCount y_Rd_wrongCount : Cond) ∈ BW := bw0 (List.mem_of_getElem? (l := BW0) (i := 243) rfl)
theorem kw_244 : (.methodLinkNest "PictureFile$Reader" 179 y_St_add "PictureFile" : Cond) ∈ BW := bw0 (List.mem_of_getElem? (l := BW0) (i := 244) rfl)
theorem kw_245 : (.methodLink "PictureFile$Reader" 121 y_Rd_isDirectory : Cond) ∈ BW := bw0 (List.mem_of_getElem? (l := BW0) (i := 245) rfl)
theorem kw_246 : (.code y_Rd_isDirectory b_Rd_isDirectory 3 (some .boolean) : Cond) ∈ BW := bw0 (List.mem_of_getElem? (l := BW0) (i := 246) rfl)
theorem kw_247 : (.instanceMethod y_Rd_isDirectory : Cond) ∈ BW := bw0 (List.mem_of_getElem? (l := BW0) (i := 247) rfl)
theorem kw_248 : (.selects R_Rd y_Rd_isDirectory y_Rd_isDirectory : Cond) ∈ BW := bw0 (List.mem_of_getElem? (l := BW0) (i := 248) rfl)
theorem kw_249 : (.methodLink "PictureFile$Reader" 124 y_Rd_takeEntries : Cond) ∈ BW := bw0 (List.mem_of_getElem? (l := BW0) (i := 249) rfl)
theorem kw_250 : (.code y_Rd_takeEntries b_Rd_takeEntries 8 (some .boolean) : Cond) ∈ BW := bw0 (List.mem_of_getElem? (l := BW0) (i := 250) rfl)
theorem kw_251 : (.instanceMethod y_Rd_takeEntries : Cond) ∈ BW := bw0 (List.mem_of_getElem? (l := BW0) (i := 251) rfl)
theorem kw_252 : (.selects R_Rd y_Rd_takeEntries y_Rd_takeEntries : Cond) ∈ BW := bw0 (List.mem_of_getElem? (l := BW0) (i := 252) rfl)
theorem kw_253 : (.methodLink "PictureFile$Reader" 127 y_Rd_hasNeededTags : Cond) ∈ BW := bw0 (List.mem_of_getElem? (l := BW0) (i := 253) rfl)
theorem kw_254 : (.code y_Rd_hasNeededTags b_Rd_hasNeededTags 2 (some .boolean) : Cond) ∈ BW := bw0 (List.mem_of_getElem? (l := BW0) (i := 254) rfl)
theorem kw_255 : (.instanceMethod y_Rd_hasNeededTags : Cond) ∈ BW := bw0 (List.mem_of_getElem? (l := BW0) (i := 255) rfl)
theorem kw_256 : (.selects R_Rd y_Rd_hasNeededTags y_Rd_hasNeededTags : Cond) ∈ BW := bw0 (List.mem_of_getElem? (l := BW0) (i := 256) rfl)
theorem kw_257 : (.methodLink "PictureFile$Reader" 130 y_Rd_takeNumbers : Cond) ∈ BW := bw0 (List.mem_of_getElem? (l := BW0) (i := 257) rfl)
theorem kw_258 : (.code y_Rd_takeNumbers b_Rd_takeNumbers 8 (some .boolean) : Cond) ∈ BW := bw0 (List.mem_of_getElem? (l := BW0) (i := 258) rfl)
theorem kw_259 : (.instanceMethod y_Rd_takeNumbers : Cond) ∈ BW := bw0 (List.mem_of_getElem? (l := BW0) (i := 259) rfl)
theorem kw_260 : (.selects R_Rd y_Rd_takeNumbers y_Rd_takeNumbers : Cond) ∈ BW := bw0 (List.mem_of_getElem? (l := BW0) (i := 260) rfl)
theorem kw_261 : (.methodLink "PictureFile$Reader" 133 y_Rd_takeStrips : Cond) ∈ BW := bw0 (List.mem_of_getElem? (l := BW0) (i := 261) rfl)
theorem kw_262 : (.code y_Rd_takeStrips b_Rd_takeStrips 8 (some .boolean) : Cond) ∈ BW := bw0 (List.mem_of_getElem? (l := BW0) (i := 262) rfl)
theorem kw_263 : (.instanceMethod y_Rd_takeStrips : Cond) ∈ BW := bw0 (List.mem_of_getElem? (l := BW0) (i := 263) rfl)
theorem kw_264 : (.selects R_Rd y_Rd_takeStrips y_Rd_takeStrips : Cond) ∈ BW := bw0 (List.mem_of_getElem? (l := BW0) (i := 264) rfl)
theorem kw_265 : (.methodLink "PictureFile$Reader" 71 y_Rd_forgetAll : Cond) ∈ BW := bw0 (List.mem_of_getElem? (l := BW0) (i := 265) rfl)
theorem kw_266 : (.code y_Rd_forgetAll b_Rd_forgetAll 1 none : Cond) ∈ BW := bw0 (List.mem_of_getElem? (l := BW0) (i := 266) rfl)
theorem kw_267 : (.instanceMethod y_Rd_forgetAll : Cond) ∈ BW := bw0 (List.mem_of_getElem? (l := BW0) (i := 267) rfl)
theorem kw_268 : (.selects R_Rd y_Rd_forgetAll y_Rd_forgetAll : Cond) ∈ BW := bw0 (List.mem_of_getElem? (l := BW0) (i := 268) rfl)
theorem kw_269 : (.methodLink "PictureFile$Reader" 74 y_Rd_takeHead : Cond) ∈ BW := bw0 (List.mem_of_getElem? (l := BW0) (i := 269) rfl)
theorem kw_270 : (.code y_Rd_takeHead b_Rd_takeHead 2 (some .boolean) : Cond) ∈ BW := bw0 (List.mem_of_getElem? (l := BW0) (i := 270) rfl)
theorem kw_271 : (.instanceMethod y_Rd_takeHead : Cond) ∈ BW := bw0 (List.mem_of_getElem? (l := BW0) (i := 271) rfl)
theorem kw_272 : (.selects R_Rd y_Rd_takeHead y_Rd_takeHead : Cond) ∈ BW := bw0 (List.mem_of_getElem? (l := BW0) (i := 272) rfl)
theorem kw_273 : (.methodLink "PictureFile$Reader" 92 y_Rd_takePage : Cond) ∈ BW := bw0 (List.mem_of_getElem? (l := BW0) (i := 273) rfl)
theorem kw_274 : (.code y_Rd_takePage b_Rd_takePage 3 (some .boolean) : Cond) ∈ BW := bw0 (List.mem_of_getElem? (l := BW0) (i := 274) rfl)
theorem kw_275 : (.instanceMethod y_Rd_takePage : Cond) ∈ BW := bw0 (List.mem_of_getElem? (l := BW0) (i := 275) rfl)
theorem kw_276 : (.selects R_Rd y_Rd_takePage y_Rd_takePage : Cond) ∈ BW := bw0 (List.mem_of_getElem? (l := BW0) (i := 276) rfl)
theorem kw_277 : (.fieldLink "PictureFile" 21 "PictureFile" "maker" "LPictureFile$Maker;" : Cond) ∈ BW := bw0 (List.mem_of_getElem? (l := BW0) (i := 277) rfl)
theorem kw_278 : (.fieldLinkNest "PictureFile" 32 "PictureFile$Maker" "making" "Z" "PictureFile" : Cond) ∈ BW := bw0 (List.mem_of_getElem? (l := BW0) (i := 278) rfl)
theorem kw_279 : (.methodLink "PictureFile" 36 y_PF_isPartLength : Cond) ∈ BW := bw0 (List.mem_of_getElem? (l := BW0) (i := 279) rfl)
theorem kw_280 : (.code y_PF_isPartLength b_PF_isPartLength 1 (some .boolean) : Cond) ∈ BW := bw0 (List.mem_of_getElem? (l := BW0) (i := 280) rfl)
theorem kw_281 : (.static y_PF_isPartLength : Cond) ∈ BW := bw0 (List.mem_of_getElem? (l := BW0) (i := 281) rfl)
theorem kw_282 : (.fieldLink "PictureFile" 10 "PictureFile" "file" "LPictureFile$Row;" : Cond) ∈ BW := bw0 (List.mem_of_getElem? (l := BW0) (i := 282) rfl)
theorem kw_283 : (.fieldLinkNest "PictureFile" 40 "PictureFile$Row" "size" "I" "PictureFile" : Cond) ∈ BW := bw0 (List.mem_of_getElem? (l := BW0) (i := 283) rfl)
theorem kw_284 : (.constant "PictureFile" 44 65536 : Cond) ∈ BW := bw0 (List.mem_of_getElem? (l := BW0) (i := 284) rfl)
theorem kw_285 : (.methodLinkNest "PictureFile" 45 y_Row_append "PictureFile" : Cond) ∈ BW := bw0 (List.mem_of_getElem? (l := BW0) (i := 285) rfl)
theorem kw_286 : (.methodLinkNest "PictureFile" 49 y_Row_replace "PictureFile" : Cond) ∈ BW := bw0 (List.mem_of_getElem? (l := BW0) (i := 286) rfl)
theorem kw_287 : (.methodLinkNest "PictureFile" 55 y_Row_number "PictureFile" : Cond) ∈ BW := bw0 (List.mem_of_getElem? (l := BW0) (i := 287) rfl)
theorem kw_288 : (.methodLinkNest "PictureFile" 97 y_Mk_stripsToCome "PictureFile" : Cond) ∈ BW := bw0 (List.mem_of_getElem? (l := BW0) (i := 288) rfl)
theorem kw_289 : (.code y_Mk_stripsToCome b_Mk_stripsToCome 1 (some .int) : Cond) ∈ BW := bw0 (List.mem_of_getElem? (l := BW0) (i := 289) rfl)
theorem kw_290 : (.instanceMethod y_Mk_stripsToCome : Cond) ∈ BW := bw0 (List.mem_of_getElem? (l := BW0) (i := 290) rfl)
theorem kw_291 : (.selects R_Mk y_Mk_stripsToCome y_Mk_stripsToCome : Cond) ∈ BW := bw0 (List.mem_of_getElem? (l := BW0) (i := 291) rfl)
theorem kw_292 : (.methodLinkNest "PictureFile" 101 y_Mk_hasRoomFor "PictureFile" : Cond) ∈ BW := bw0 (List.mem_of_getElem? (l := BW0) (i := 292) rfl)
theorem kw_293 : (.code y_Mk_hasRoomFor b_Mk_hasRoomFor 3 (some .boolean) : Cond) ∈ BW := bw0 (List.mem_of_getElem? (l := BW0) (i := 293) rfl)
theorem kw_294 : (.instanceMethod y_Mk_hasRoomFor : Cond) ∈ BW := bw0 (List.mem_of_getElem? (l := BW0) (i := 294) rfl)
theorem kw_295 : (.selects R_Mk y_Mk_hasRoomFor y_Mk_hasRoomFor : Cond) ∈ BW := bw0 (List.mem_of_getElem? (l := BW0) (i := 295) rfl)
theorem kw_296 : (.methodLinkNest "PictureFile" 104 y_Mk_addToStrip "PictureFile" : Cond) ∈ BW := bw0 (List.mem_of_getElem? (l := BW0) (i := 296) rfl)
theorem kw_297 : (.code y_Mk_addToStrip b_Mk_addToStrip 4 none : Cond) ∈ BW := bw0 (List.mem_of_getElem? (l := BW0) (i := 297) rfl)
theorem kw_298 : (.instanceMethod y_Mk_addToStrip : Cond) ∈ BW := bw0 (List.mem_of_getElem? (l := BW0) (i := 298) rfl)
theorem kw_299 : (.selects R_Mk y_Mk_addToStrip y_Mk_addToStrip : Cond) ∈ BW := bw0 (List.mem_of_getElem? (l := BW0) (i := 299) rfl)
theorem kw_300 : (.fieldLink "PictureFile" 28 "PictureFile" "reader" "LPictureFile$Reader;" : Cond) ∈ BW := bw0 (List.mem_of_getElem? (l := BW0) (i := 300) rfl)
theorem kw_301 : (.methodLinkNest "PictureFile" 132 y_Rd_faultNumber "PictureFile" : Cond) ∈ BW := bw0 (List.mem_of_getElem? (l := BW0) (i := 301) rfl)
theorem kw_302 : (.code y_Rd_faultNumber b_Rd_faultNumber 2 (some .int) : Cond) ∈ BW := bw0 (List.mem_of_getElem? (l := BW0) (i := 302) rfl)
theorem kw_303 : (.instanceMethod y_Rd_faultNumber : Cond) ∈ BW := bw0 (List.mem_of_getElem? (l := BW0) (i := 303) rfl)
theorem kw_304 : (.selects R_Rd y_Rd_faultNumber y_Rd_faultNumber : Cond) ∈ BW := bw0 (List.mem_of_getElem? (l := BW0) (i := 304) rfl)
theorem kw_305 : (.fieldLinkNest "PictureFile" 73 "PictureFile$Maker" "onPage" "Z" "PictureFile" : Cond) ∈ BW := bw0 (List.mem_of_getElem? (l := BW0) (i := 305) rfl)
theorem kw_306 : (.fieldLinkNest "PictureFile" 76 "PictureFile$Maker" "pages" "I" "PictureFile" : Cond) ∈ BW := bw0 (List.mem_of_getElem? (l := BW0) (i := 306) rfl)
theorem kw_307 : (.fieldLinkNest "PictureFile" 174 "PictureFile$Maker" "stripBytes" "I" "PictureFile" : Cond) ∈ BW := bw0 (List.mem_of_getElem? (l := BW0) (i := 307) rfl)
theorem kw_308 : (.fieldLinkNest "PictureFile" 131 "PictureFile$Reader" "pages" "I" "PictureFile" : Cond) ∈ BW := bw0 (List.mem_of_getElem? (l := BW0) (i := 308) rfl)
theorem kw_309 : (.fieldLinkNest "PictureFile" 177 "PictureFile$Reader" "order" "I" "PictureFile" : Cond) ∈ BW := bw0 (List.mem_of_getElem? (l := BW0) (i := 309) rfl)
theorem kw_310 : (.fieldLink "PictureFileModel" 37 "PictureFileModel" "thrown" "I" : Cond) ∈ BW := bw0 (List.mem_of_getElem? (l := BW0) (i := 310) rfl)
theorem kw_311 : (.fieldLink "PictureFileModel" 8 "PictureFileModel" "file" "[B" : Cond) ∈ BW := bw0 (List.mem_of_getElem? (l := BW0) (i := 311) rfl)
theorem kw_312 : (.fieldLink "PictureFileModel" 41 "PictureFileModel" "size" "I" : Cond) ∈ BW := bw0 (List.mem_of_getElem? (l := BW0) (i := 312) rfl)
theorem kw_313 : (.fieldLink "PictureFileModel" 58 "PictureFileModel" "order" "I" : Cond) ∈ BW := bw0 (List.mem_of_getElem? (l := BW0) (i := 313) rfl)
theorem kw_314 : (.methodLink "PictureFileModel" 50 y_Md_one : Cond) ∈ BW := bw0 (List.mem_of_getElem? (l := BW0) (i := 314) rfl)
theorem kw_315 : (.code y_Md_one b_Md_one 2 none : Cond) ∈ BW := bw0 (List.mem_of_getElem? (l := BW0) (i := 315) rfl)
theorem kw_316 : (.initialized "PictureFileModel" : Cond) ∈ BW := bw0 (List.mem_of_getElem? (l := BW0) (i := 316) rfl)
theorem kw_317 : (.instanceMethod y_Md_one : Cond) ∈ BW := bw0 (List.mem_of_getElem? (l := BW0) (i := 317) rfl)
theorem kw_318 : (.selects R_Md y_Md_one y_Md_one : Cond) ∈ BW := bw0 (List.mem_of_getElem? (l := BW0) (i := 318) rfl)
theorem kw_319 : (.methodLink "PictureFileModel" 61 y_Md_two : Cond) ∈ BW := bw0 (List.mem_of_getElem? (l := BW0) (i := 319) rfl)
theorem kw_320 : (.code y_Md_two b_Md_two 2 none : Cond) ∈ BW := bw0 (List.mem_of_getElem? (l := BW0) (i := 320) rfl)
theorem kw_321 : (.instanceMethod y_Md_two : Cond) ∈ BW := bw0 (List.mem_of_getElem? (l := BW0) (i := 321) rfl)
theorem kw_322 : (.selects R_Md y_Md_two y_Md_two : Cond) ∈ BW := bw0 (List.mem_of_getElem? (l := BW0) (i := 322) rfl)
theorem kw_323 : (.methodLink "PictureFileModel" 64 y_Md_four : Cond) ∈ BW := bw0 (List.mem_of_getElem? (l := BW0) (i := 323) rfl)
theorem kw_324 : (.code y_Md_four b_Md_four 2 none : Cond) ∈ BW := bw0 (List.mem_of_getElem? (l := BW0) (i := 324) rfl)
theorem kw_325 : (.instanceMethod y_Md_four : Cond) ∈ BW := bw0 (List.mem_of_getElem? (l := BW0) (i := 325) rfl)
theorem kw_326 : (.selects R_Md y_Md_four y_Md_four : Cond) ∈ BW := bw0 (List.mem_of_getElem? (l := BW0) (i := 326) rfl)
theorem kw_327 : (.fieldLink "PictureFileModel" 44 "PictureFileModel" "making" "Z" : Cond) ∈ BW := bw0 (List.mem_of_getElem? (l := BW0) (i := 327) rfl)
theorem kw_328 : (.fieldLink "PictureFileModel" 67 "PictureFileModel" "open" "Z" : Cond) ∈ BW := bw0 (List.mem_of_getElem? (l := BW0) (i := 328) rfl)
theorem kw_329 : (.fieldLink "PictureFileModel" 70 "PictureFileModel" "made" "I" : Cond) ∈ BW := bw0 (List.mem_of_getElem? (l := BW0) (i := 329) rfl)
theorem kw_330 : (.fieldLink "PictureFileModel" 73 "PictureFileModel" "link" "I" : Cond) ∈ BW := bw0 (List.mem_of_getElem? (l := BW0) (i := 330) rfl)
theorem kw_331 : (.fieldLink "PictureFileModel" 76 "PictureFileModel" "width" "I" : Cond) ∈ BW := bw0 (List.mem_of_getElem? (l := BW0) (i := 331) rfl)
theorem kw_332 : (.fieldLink "PictureFileModel" 79 "PictureFileModel" "height" "I" : Cond) ∈ BW := bw0 (List.mem_of_getElem? (l := BW0) (i := 332) rfl)
theorem kw_333 : (.fieldLink "PictureFileModel" 82 "PictureFileModel" "rows" "I" : Cond) ∈ BW := bw0 (List.mem_of_getElem? (l := BW0) (i := 333) rfl)
theorem kw_334 : (.fieldLink "PictureFileModel" 85 "PictureFileModel" "across" "I" : Cond) ∈ BW := bw0 (List.mem_of_getElem? (l := BW0) (i := 334) rfl)
theorem kw_335 : (.fieldLink "PictureFileModel" 88 "PictureFileModel" "down" "I" : Cond) ∈ BW := bw0 (List.mem_of_getElem? (l := BW0) (i := 335) rfl)
theorem kw_336 : (.fieldLink "PictureFileModel" 91 "PictureFileModel" "strips" "I" : Cond) ∈ BW := bw0 (List.mem_of_getElem? (l := BW0) (i := 336) rfl)
theorem kw_337 : (.fieldLink "PictureFileModel" 94 "PictureFileModel" "done" "I" : Cond) ∈ BW := bw0 (List.mem_of_getElem? (l := BW0) (i := 337) rfl)
theorem kw_338 : (.fieldLink "PictureFileModel" 97 "PictureFileModel" "length" "I" : Cond) ∈ BW := bw0 (List.mem_of_getElem? (l := BW0) (i := 338) rfl)
theorem kw_339 : (.fieldLink "PictureFileModel" 100 "PictureFileModel" "from" "I" : Cond) ∈ BW := bw0 (List.mem_of_getElem? (l := BW0) (i := 339) rfl)
theorem kw_340 : (.constant "PictureFileModel" 7 65536 : Cond) ∈ BW := bw0 (List.mem_of_getElem? (l := BW0) (i := 340) rfl)
theorem kw_341 : (.constantLong "PictureFileModel" 48 255 : Cond) ∈ BW := bw0 (List.mem_of_getElem? (l := BW0) (i := 341) rfl)
theorem kw_342 : (.methodLink "PictureFileModel" 54 y_Md_at : Cond) ∈ BW := bw0 (List.mem_of_getElem? (l := BW0) (i := 342) rfl)
theorem kw_343 : (.code y_Md_at b_Md_at 2 (some .int) : Cond) ∈ BW := bw0 (List.mem_of_getElem? (l := BW0) (i := 343) rfl)
theorem kw_344 : (.instanceMethod y_Md_at : Cond) ∈ BW := bw0 (List.mem_of_getElem? (l := BW0) (i := 344) rfl)
theorem kw_345 : (.selects R_Md y_Md_at y_Md_at : Cond) ∈ BW := bw0 (List.mem_of_getElem? (l := BW0) (i := 345) rfl)
theorem kw_346 : (.constant "PictureFileModel" 103 60000 : Cond) ∈ BW := bw0 (List.mem_of_getElem? (l := BW0) (i := 346) rfl)
theorem kw_347 : (.methodLink "PictureFileModel" 104 y_Md_start : Cond) ∈ BW := bw0 (List.mem_of_getElem? (l := BW0) (i := 347) rfl)
theorem kw_348 : (.code y_Md_start b_Md_start 1 none : Cond) ∈ BW := bw0 (List.mem_of_getElem? (l := BW0) (i := 348) rfl)
theorem kw_349 : (.instanceMethod y_Md_start : Cond) ∈ BW := bw0 (List.mem_of_getElem? (l := BW0) (i := 349) rfl)
theorem kw_350 : (.selects R_Md y_Md_start y_Md_start : Cond) ∈ BW := bw0 (List.mem_of_getElem? (l := BW0) (i := 350) rfl)
set_option maxRecDepth 100000 in
theorem kw_351 : (.fieldLink "PictureFileModel" 14 "PictureFileModel" "places" "[I" : Cond) ∈ BW := bw0 (List.mem_of_getElem? (l := BW0) (i := 351) rfl)
set_option maxRecDepth 100000 in
theorem kw_352 : (.fieldLink "PictureFileModel" 18 "PictureFileModel" "lengths" "[I" : Cond) ∈ BW := bw0 (List.mem_of_getElem? (l := BW0) (i := 352) rfl)
set_option maxRecDepth 100000 in
theorem kw_353 : (.methodLink "PictureFileModel" 111 y_Md_entryOf : Cond) ∈ BW := bw0 (List.mem_of_getElem? (l := BW0) (i := 353) rfl)
set_option maxRecDepth 100000 in
theorem kw_354 : (.code y_Md_entryOf b_Md_entryOf 5 none : Cond) ∈ BW := bw0 (List.mem_of_getElem? (l := BW0) (i := 354) rfl)
set_option maxRecDepth 100000 in
theorem kw_355 : (.instanceMethod y_Md_entryOf : Cond) ∈ BW := bw0 (List.mem_of_getElem? (l := BW0) (i := 355) rfl)
set_option maxRecDepth 100000 in
theorem kw_356 : (.selects R_Md y_Md_entryOf y_Md_entryOf : Cond) ∈ BW := bw0 (List.mem_of_getElem? (l := BW0) (i := 356) rfl)
set_option maxRecDepth 100000 in
theorem kw_357 : (.methodLink "PictureFileModel" 107 y_Md_fourAt : Cond) ∈ BW := bw0 (List.mem_of_getElem? (l := BW0) (i := 357) rfl)
set_option maxRecDepth 100000 in
theorem kw_358 : (.code y_Md_fourAt b_Md_fourAt 4 none : Cond) ∈ BW := bw0 (List.mem_of_getElem? (l := BW0) (i := 358) rfl)
set_option maxRecDepth 100000 in
theorem kw_359 : (.instanceMethod y_Md_fourAt : Cond) ∈ BW := bw0 (List.mem_of_getElem? (l := BW0) (i := 359) rfl)
set_option maxRecDepth 100000 in
theorem kw_360 : (.selects R_Md y_Md_fourAt y_Md_fourAt : Cond) ∈ BW := bw0 (List.mem_of_getElem? (l := BW0) (i := 360) rfl)
set_option maxRecDepth 100000 in
theorem kw_361 : (.fieldLink "PictureFileModel" 115 "PictureFileModel" "wasOrder" "I" : Cond) ∈ BW := bw0 (List.mem_of_getElem? (l := BW0) (i := 361) rfl)
set_option maxRecDepth 100000 in
theorem kw_362 : (.methodLink "PictureFileModel" 118 y_Md_readTwo : Cond) ∈ BW := bw0 (List.mem_of_getElem? (l := BW0) (i := 362) rfl)
set_option maxRecDepth 100000 in
theorem kw_363 : (.code y_Md_readTwo b_Md_readTwo 2 (some .int) : Cond) ∈ BW := bw0 (List.mem_of_getElem? (l := BW0) (i := 363) rfl)
set_option maxRecDepth 100000 in
theorem kw_364 : (.instanceMethod y_Md_readTwo : Cond) ∈ BW := bw0 (List.mem_of_getElem? (l := BW0) (i := 364) rfl)
set_option maxRecDepth 100000 in
theorem kw_365 : (.selects R_Md y_Md_readTwo y_Md_readTwo : Cond) ∈ BW := bw0 (List.mem_of_getElem? (l := BW0) (i := 365) rfl)
set_option maxRecDepth 100000 in
theorem kw_366 : (.constantLong "PictureFileModel" 121 65536 : Cond) ∈ BW := bw0 (List.mem_of_getElem? (l := BW0) (i := 366) rfl)
set_option maxRecDepth 100000 in
theorem kw_367 : (.fieldLink "PictureFileModel" 123 "PictureFileModel" "fault" "I" : Cond) ∈ BW := bw0 (List.mem_of_getElem? (l := BW0) (i := 367) rfl)
set_option maxRecDepth 100000 in
theorem kw_368 : (.fieldLink "PictureFileModel" 126 "PictureFileModel" "faultPage" "I" : Cond) ∈ BW := bw0 (List.mem_of_getElem? (l := BW0) (i := 368) rfl)
set_option maxRecDepth 100000 in
theorem kw_369 : (.fieldLink "PictureFileModel" 129 "PictureFileModel" "faultTag" "I" : Cond) ∈ BW := bw0 (List.mem_of_getElem? (l := BW0) (i := 369) rfl)
set_option maxRecDepth 100000 in
theorem kw_370 : (.fieldLink "PictureFileModel" 132 "PictureFileModel" "faultStrip" "I" : Cond) ∈ BW := bw0 (List.mem_of_getElem? (l := BW0) (i := 370) rfl)
set_option maxRecDepth 100000 in
theorem kw_371 : (.methodLink "PictureFileModel" 144 y_Md_wrong : Cond) ∈ BW := bw0 (List.mem_of_getElem? (l := BW0) (i := 371) rfl)
set_option maxRecDepth 100000 in
theorem kw_372 : (.code y_Md_wrong b_Md_wrong 5 (some .boolean) : Cond) ∈ BW := bw0 (List.mem_of_getElem? (l := BW0) (i := 372) rfl)
set_option maxRecDepth 100000 in
theorem kw_373 : (.instanceMethod y_Md_wrong : Cond) ∈ BW := bw0 (List.mem_of_getElem? (l := BW0) (i := 373) rfl)
set_option maxRecDepth 100000 in
theorem kw_374 : (.selects R_Md y_Md_wrong y_Md_wrong : Cond) ∈ BW := bw0 (List.mem_of_getElem? (l := BW0) (i := 374) rfl)
set_option maxRecDepth 100000 in
theorem kw_375 : (.methodLink "PictureFileModel" 148 y_Md_sizeOf : Cond) ∈ BW := bw0 (List.mem_of_getElem? (l := BW0) (i := 375) rfl)
set_option maxRecDepth 100000 in
theorem kw_376 : (.code y_Md_sizeOf b_Md_sizeOf 1 (some .int) : Cond) ∈ BW := bw0 (List.mem_of_getElem? (l := BW0) (i := 376) rfl)
set_option maxRecDepth 100000 in
theorem kw_377 : (.static y_Md_sizeOf : Cond) ∈ BW := bw0 (List.mem_of_getElem? (l := BW0) (i := 377) rfl)
set_option maxRecDepth 100000 in
theorem kw_378 : (.constantLong "PictureFileModel" 151 4 : Cond) ∈ BW := bw0 (List.mem_of_getElem? (l := BW0) (i := 378) rfl)
set_option maxRecDepth 100000 in
theorem kw_379 : (.methodLink "PictureFileModel" 138 y_Md_readFour : Cond) ∈ BW := bw0 (List.mem_of_getElem? (l := BW0) (i := 379) rfl)
set_option maxRecDepth 100000 in
theorem kw_380 : (.code y_Md_readFour b_Md_readFour 6 (some .long) : Cond) ∈ BW := bw0 (List.mem_of_getElem? (l := BW0) (i := 380) rfl)
set_option maxRecDepth 100000 in
theorem kw_381 : (.instanceMethod y_Md_readFour : Cond) ∈ BW := bw0 (List.mem_of_getElem? (l := BW0) (i := 381) rfl)
set_option maxRecDepth 100000 in
theorem kw_382 : (.selects R_Md y_Md_readFour y_Md_readFour : Cond) ∈ BW := bw0 (List.mem_of_getElem? (l := BW0) (i := 382) rfl)
set_option maxRecDepth 100000 in
theorem kw_383 : (.constantLong "PictureFileModel" 142 4096 : Cond) ∈ BW := bw0 (List.mem_of_getElem? (l := BW0) (i := 383) rfl)
set_option maxRecDepth 100000 in
theorem kw_384 : (.methodLink "PictureFileModel" 135 y_Md_known : Cond) ∈ BW := bw0 (List.mem_of_getElem? (l := BW0) (i := 384) rfl)
set_option maxRecDepth 100000 in
theorem kw_385 : (.code y_Md_known b_Md_known 1 (some .int) : Cond) ∈ BW := bw0 (List.mem_of_getElem? (l := BW0) (i := 385) rfl)
set_option maxRecDepth 100000 in
theorem kw_386 : (.static y_Md_known : Cond) ∈ BW := bw0 (List.mem_of_getElem? (l := BW0) (i := 386) rfl)
set_option maxRecDepth 100000 in
theorem kw_387 : (.fieldLink "PictureFileModel" 34 "PictureFileModel" "entry" "[I" : Cond) ∈ BW := bw0 (List.mem_of_getElem? (l := BW0) (i := 387) rfl)
set_option maxRecDepth 100000 in
theorem kw_388 : (.methodLink "PictureFileModel" 153 y_Md_value : Cond) ∈ BW := bw0 (List.mem_of_getElem? (l := BW0) (i := 388) rfl)
set_option maxRecDepth 100000 in
theorem kw_389 : (.code y_Md_value b_Md_value 8 (some .long) : Cond) ∈ BW := bw0 (List.mem_of_getElem? (l := BW0) (i := 389) rfl)
set_option maxRecDepth 100000 in
theorem kw_390 : (.instanceMethod y_Md_value : Cond) ∈ BW := bw0 (List.mem_of_getElem? (l := BW0) (i := 390) rfl)
set_option maxRecDepth 100000 in
theorem kw_391 : (.selects R_Md y_Md_value y_Md_value : Cond) ∈ BW := bw0 (List.mem_of_getElem? (l := BW0) (i := 391) rfl)
set_option maxRecDepth 100000 in
theorem kw_392 : (.methodLink "PictureFileModel" 157 y_Md_sound : Cond) ∈ BW := bw0 (List.mem_of_getElem? (l := BW0) (i := 392) rfl)
set_option maxRecDepth 100000 in
theorem kw_393 : (.code y_Md_sound b_Md_sound 13 (some .boolean) : Cond) ∈ BW := bw0 (List.mem_of_getElem? (l := BW0) (i := 393) rfl)
set_option maxRecDepth 100000 in
theorem kw_394 : (.instanceMethod y_Md_sound : Cond) ∈ BW := bw0 (List.mem_of_getElem? (l := BW0) (i := 394) rfl)
set_option maxRecDepth 100000 in
theorem kw_395 : (.selects R_Md y_Md_sound y_Md_sound : Cond) ∈ BW := bw0 (List.mem_of_getElem? (l := BW0) (i := 395) rfl)
set_option maxRecDepth 100000 in
theorem kw_396 : (.fieldLink "PictureFileModel" 25 "PictureFileModel" "firstStrip" "[I" : Cond) ∈ BW := bw0 (List.mem_of_getElem? (l := BW0) (i := 396) rfl)
set_option maxRecDepth 100000 in
theorem kw_397 : (.constantLong "PictureFileModel" 179 8 : Cond) ∈ BW := bw0 (List.mem_of_getElem? (l := BW0) (i := 397) rfl)
set_option maxRecDepth 100000 in
theorem kw_398 : (.fieldLink "PictureFileModel" 28 "PictureFileModel" "stripPlace" "[I" : Cond) ∈ BW := bw0 (List.mem_of_getElem? (l := BW0) (i := 398) rfl)
set_option maxRecDepth 100000 in
theorem kw_399 : (.fieldLink "PictureFileModel" 31 "PictureFileModel" "stripLength" "[I" : Cond) ∈ BW := bw0 (List.mem_of_getElem? (l := BW0) (i := 399) rfl)
set_option maxRecDepth 100000 in
theorem kw_400 : (.fieldLink "PictureFileModel" 21 "PictureFileModel" "numbers" "[J" : Cond) ∈ BW := bw0 (List.mem_of_getElem? (l := BW0) (i := 400) rfl)
set_option maxRecDepth 100000 in
theorem kw_401 : (.constantLong "PictureFileModel" 173 300 : Cond) ∈ BW := bw0 (List.mem_of_getElem? (l := BW0) (i := 401) rfl)
set_option maxRecDepth 100000 in
theorem kw_402 : (.methodLink "PictureFileModel" 161 y_Md_valueOr : Cond) ∈ BW := bw0 (List.mem_of_getElem? (l := BW0) (i := 402) rfl)
set_option maxRecDepth 100000 in
theorem kw_403 : (.code y_Md_valueOr b_Md_valueOr 5 (some .long) : Cond) ∈ BW := bw0 (List.mem_of_getElem? (l := BW0) (i := 403) rfl)
set_option maxRecDepth 100000 in
theorem kw_404 : (.instanceMethod y_Md_valueOr : Cond) ∈ BW := bw0 (List.mem_of_getElem? (l := BW0) (i := 404) rfl)
set_option maxRecDepth 100000 in
theorem kw_405 : (.selects R_Md y_Md_valueOr y_Md_valueOr : Cond) ∈ BW := bw0 (List.mem_of_getElem? (l := BW0) (i := 405) rfl)
set_option maxRecDepth 100000 in
theorem kw_406 : (.methodLink "PictureFileModel" 175 y_Md_stripsOf : Cond) ∈ BW := bw0 (List.mem_of_getElem? (l := BW0) (i := 406) rfl)
set_option maxRecDepth 100000 in
theorem kw_407 : (.code y_Md_stripsOf b_Md_stripsOf 8 (some .boolean) : Cond) ∈ BW := bw0 (List.mem_of_getElem? (l := BW0) (i := 407) rfl)
set_option maxRecDepth 100000 in
theorem kw_408 : (.instanceMethod y_Md_stripsOf : Cond) ∈ BW := bw0 (List.mem_of_getElem? (l := BW0) (i := 408) rfl)
set_option maxRecDepth 100000 in
theorem kw_409 : (.selects R_Md y_Md_stripsOf y_Md_stripsOf : Cond) ∈ BW := bw0 (List.mem_of_getElem? (l := BW0) (i := 409) rfl)
set_option maxRecDepth 100000 in
theorem kw_410 : (.constantLong "PictureFileModel" 171 8192 : Cond) ∈ BW := bw0 (List.mem_of_getElem? (l := BW0) (i := 410) rfl)
set_option maxRecDepth 100000 in
theorem kw_411 : (.constantLong "PictureFileModel" 165 2 : Cond) ∈ BW := bw0 (List.mem_of_getElem? (l := BW0) (i := 411) rfl)
set_option maxRecDepth 100000 in
theorem kw_412 : (.constantLong "PictureFileModel" 169 3 : Cond) ∈ BW := bw0 (List.mem_of_getElem? (l := BW0) (i := 412) rfl)
set_option maxRecDepth 100000 in
theorem kw_413 : (.constantLong "PictureFileModel" 167 20000 : Cond) ∈ BW := bw0 (List.mem_of_getElem? (l := BW0) (i := 413) rfl)
set_option maxRecDepth 100000 in
theorem kw_414 : (.constantLong "PictureFileModel" 181 12 : Cond) ∈ BW := bw0 (List.mem_of_getElem? (l := BW0) (i := 414) rfl)
set_option maxRecDepth 100000 in
theorem kw_415 : (.fieldLink "PictureFileModel" 183 "PictureFileModel" "pages" "I" : Cond) ∈ BW := bw0 (List.mem_of_getElem? (l := BW0) (i := 415) rfl)
set_option maxRecDepth 100000 in
theorem kw_416 : (.methodLink "PictureFileModel" 186 y_Md_lies : Cond) ∈ BW := bw0 (List.mem_of_getElem? (l := BW0) (i := 416) rfl)
set_option maxRecDepth 100000 in
theorem kw_417 : (.code y_Md_lies b_Md_lies 4 (some .boolean) : Cond) ∈ BW := bw0 (List.mem_of_getElem? (l := BW0) (i := 417) rfl)
set_option maxRecDepth 100000 in
theorem kw_418 : (.instanceMethod y_Md_lies : Cond) ∈ BW := bw0 (List.mem_of_getElem? (l := BW0) (i := 418) rfl)
set_option maxRecDepth 100000 in
theorem kw_419 : (.selects R_Md y_Md_lies y_Md_lies : Cond) ∈ BW := bw0 (List.mem_of_getElem? (l := BW0) (i := 419) rfl)
set_option maxRecDepth 100000 in
theorem kw_420 : (.methodLink "PictureFileModel" 190 y_Md_entries : Cond) ∈ BW := bw0 (List.mem_of_getElem? (l := BW0) (i := 420) rfl)
set_option maxRecDepth 100000 in
theorem kw_421 : (.code y_Md_entries b_Md_entries 8 (some .boolean) : Cond) ∈ BW := bw0 (List.mem_of_getElem? (l := BW0) (i := 421) rfl)
set_option maxRecDepth 100000 in
theorem kw_422 : (.instanceMethod y_Md_entries : Cond) ∈ BW := bw0 (List.mem_of_getElem? (l := BW0) (i := 422) rfl)
set_option maxRecDepth 100000 in
theorem kw_423 : (.selects R_Md y_Md_entries y_Md_entries : Cond) ∈ BW := bw0 (List.mem_of_getElem? (l := BW0) (i := 423) rfl)
set_option maxRecDepth 100000 in
theorem kw_424 : (.methodLink "PictureFileModel" 193 y_Md_values : Cond) ∈ BW := bw0 (List.mem_of_getElem? (l := BW0) (i := 424) rfl)
set_option maxRecDepth 100000 in
theorem kw_425 : (.code y_Md_values b_Md_values 21 (some .boolean) : Cond) ∈ BW := bw0 (List.mem_of_getElem? (l := BW0) (i := 425) rfl)
set_option maxRecDepth 100000 in
theorem kw_426 : (.instanceMethod y_Md_values : Cond) ∈ BW := bw0 (List.mem_of_getElem? (l := BW0) (i := 426) rfl)
set_option maxRecDepth 100000 in
theorem kw_427 : (.selects R_Md y_Md_values y_Md_values : Cond) ∈ BW := bw0 (List.mem_of_getElem? (l := BW0) (i := 427) rfl)
set_option maxRecDepth 100000 in
theorem kw_428 : (.methodLink "PictureFileModel" 197 y_Md_gone : Cond) ∈ BW := bw0 (List.mem_of_getElem? (l := BW0) (i := 428) rfl)
set_option maxRecDepth 100000 in
theorem kw_429 : (.code y_Md_gone b_Md_gone 6 none : Cond) ∈ BW := bw0 (List.mem_of_getElem? (l := BW0) (i := 429) rfl)
set_option maxRecDepth 100000 in
theorem kw_430 : (.instanceMethod y_Md_gone : Cond) ∈ BW := bw0 (List.mem_of_getElem? (l := BW0) (i := 430) rfl)
set_option maxRecDepth 100000 in
theorem kw_431 : (.selects R_Md y_Md_gone y_Md_gone : Cond) ∈ BW := bw0 (List.mem_of_getElem? (l := BW0) (i := 431) rfl)
set_option maxRecDepth 100000 in
theorem kw_432 : (.methodLink "PictureFileModel" 200 y_Md_isStrip : Cond) ∈ BW := bw0 (List.mem_of_getElem? (l := BW0) (i := 432) rfl)
set_option maxRecDepth 100000 in
theorem kw_433 : (.code y_Md_isStrip b_Md_isStrip 3 (some .boolean) : Cond) ∈ BW := bw0 (List.mem_of_getElem? (l := BW0) (i := 433) rfl)
set_option maxRecDepth 100000 in
theorem kw_434 : (.instanceMethod y_Md_isStrip : Cond) ∈ BW := bw0 (List.mem_of_getElem? (l := BW0) (i := 434) rfl)
set_option maxRecDepth 100000 in
theorem kw_435 : (.selects R_Md y_Md_isStrip y_Md_isStrip : Cond) ∈ BW := bw0 (List.mem_of_getElem? (l := BW0) (i := 435) rfl)
set_option maxRecDepth 100000 in
theorem kw_436 : (.methodLink "PictureFile$Row" 3 objectInit : Cond) ∈ BW := bw0 (List.mem_of_getElem? (l := BW0) (i := 436) rfl)
set_option maxRecDepth 100000 in
theorem kw_437 : (.instanceMethod objectInit : Cond) ∈ BW := bw0 (List.mem_of_getElem? (l := BW0) (i := 437) rfl)
set_option maxRecDepth 100000 in
theorem kw_438 : (.code objectInit ⟨#[0xb1]⟩ 1 none : Cond) ∈ BW := bw0 (List.mem_of_getElem? (l := BW0) (i := 438) rfl)
set_option maxRecDepth 100000 in
theorem kw_439 : (.arrayClass .byte : Cond) ∈ BW := bw0 (List.mem_of_getElem? (l := BW0) (i := 439) rfl)
set_option maxRecDepth 100000 in
theorem kw_440 : (.methodLink "PictureFile$Strips" 1 objectInit : Cond) ∈ BW := bw0 (List.mem_of_getElem? (l := BW0) (i := 440) rfl)
set_option maxRecDepth 100000 in
theorem kw_441 : (.arrayClass .int : Cond) ∈ BW := bw0 (List.mem_of_getElem? (l := BW0) (i := 441) rfl)
set_option maxRecDepth 100000 in
theorem kw_442 : (.methodLink "PictureFile$Maker" 5 objectInit : Cond) ∈ BW := bw0 (List.mem_of_getElem? (l := BW0) (i := 442) rfl)
set_option maxRecDepth 100000 in
theorem kw_443 : (.classLink "PictureFile$Maker" 11 "PictureFile$Strips" : Cond) ∈ BW := bw0 (List.mem_of_getElem? (l := BW0) (i := 443) rfl)
set_option maxRecDepth 100000 in
theorem kw_444 : (.instantiable "PictureFile$Strips" 3 : Cond) ∈ BW := bw0 (List.mem_of_getElem? (l := BW0) (i := 444) rfl)
set_option maxRecDepth 100000 in
theorem kw_445 : (.methodLinkNest "PictureFile$Maker" 13 y_St_init "PictureFile" : Cond) ∈ BW := bw0 (List.mem_of_getElem? (l := BW0) (i := 445) rfl)
set_option maxRecDepth 100000 in
theorem kw_446 : (.code y_St_init b_St_init 2 none : Cond) ∈ BW := bw0 (List.mem_of_getElem? (l := BW0) (i := 446) rfl)
set_option maxRecDepth 100000 in
theorem kw_447 : (.instanceMethod y_St_init : Cond) ∈ BW := bw0 (List.mem_of_getElem? (l := BW0) (i := 447) rfl)
set_option maxRecDepth 100000 in
theorem kw_448 : (.methodLink "PictureFile$PageNumbers" 3 objectInit : Cond) ∈ BW := bw0 (List.mem_of_getElem? (l := BW0) (i := 448) rfl)
set_option maxRecDepth 100000 in
theorem kw_449 : (.arrayClass .long : Cond) ∈ BW := bw0 (List.mem_of_getElem? (l := BW0) (i := 449) rfl)
set_option maxRecDepth 100000 in
theorem kw_450 : (.methodLink "PictureFile$Entries" 3 objectInit : Cond) ∈ BW := bw0 (List.mem_of_getElem? (l := BW0) (i := 450) rfl)
set_option maxRecDepth 100000 in
theorem kw_451 : (.methodLink "PictureFile$Reader" 3 objectInit : Cond) ∈ BW := bw0 (List.mem_of_getElem? (l := BW0) (i := 451) rfl)
set_option maxRecDepth 100000 in
theorem kw_452 : (.classLink "PictureFile$Reader" 9 "PictureFile$PageNumbers" : Cond) ∈ BW := bw0 (List.mem_of_getElem? (l := BW0) (i := 452) rfl)
set_option maxRecDepth 100000 in
theorem kw_453 : (.instantiable "PictureFile$PageNumbers" 1 : Cond) ∈ BW := bw0 (List.mem_of_getElem? (l := BW0) (i := 453) rfl)
set_option maxRecDepth 100000 in
theorem kw_454 : (.methodLinkNest "PictureFile$Reader" 11 y_Pn_init "PictureFile" : Cond) ∈ BW := bw0 (List.mem_of_getElem? (l := BW0) (i := 454) rfl)
set_option maxRecDepth 100000 in
theorem kw_455 : (.code y_Pn_init b_Pn_init 1 none : Cond) ∈ BW := bw0 (List.mem_of_getElem? (l := BW0) (i := 455) rfl)
set_option maxRecDepth 100000 in
theorem kw_456 : (.instanceMethod y_Pn_init : Cond) ∈ BW := bw0 (List.mem_of_getElem? (l := BW0) (i := 456) rfl)
set_option maxRecDepth 100000 in
theorem kw_457 : (.classLink "PictureFile$Reader" 18 "PictureFile$Strips" : Cond) ∈ BW := bw0 (List.mem_of_getElem? (l := BW0) (i := 457) rfl)
set_option maxRecDepth 100000 in
theorem kw_458 : (.methodLinkNest "PictureFile$Reader" 20 y_St_init "PictureFile" : Cond) ∈ BW := bw0 (List.mem_of_getElem? (l := BW0) (i := 458) rfl)
set_option maxRecDepth 100000 in
theorem kw_459 : (.classLink "PictureFile$Reader" 35 "PictureFile$Entries" : Cond) ∈ BW := bw0 (List.mem_of_getElem? (l := BW0) (i := 459) rfl)
set_option maxRecDepth 100000 in
theorem kw_460 : (.instantiable "PictureFile$Entries" 4 : Cond) ∈ BW := bw0 (List.mem_of_getElem? (l := BW0) (i := 460) rfl)
set_option maxRecDepth 100000 in
theorem kw_461 : (.methodLinkNest "PictureFile$Reader" 37 y_En_init "PictureFile" : Cond) ∈ BW := bw0 (List.mem_of_getElem? (l := BW0) (i := 461) rfl)
set_option maxRecDepth 100000 in
theorem kw_462 : (.code y_En_init b_En_init 2 none : Cond) ∈ BW := bw0 (List.mem_of_getElem? (l := BW0) (i := 462) rfl)
set_option maxRecDepth 100000 in
theorem kw_463 : (.instanceMethod y_En_init : Cond) ∈ BW := bw0 (List.mem_of_getElem? (l := BW0) (i := 463) rfl)
set_option maxRecDepth 100000 in
theorem kw_464 : (.methodLink "PictureFile" 1 objectInit : Cond) ∈ BW := bw0 (List.mem_of_getElem? (l := BW0) (i := 464) rfl)
set_option maxRecDepth 100000 in
theorem kw_465 : (.classLink "PictureFile" 7 "PictureFile$Row" : Cond) ∈ BW := bw0 (List.mem_of_getElem? (l := BW0) (i := 465) rfl)
set_option maxRecDepth 100000 in
theorem kw_466 : (.instantiable "PictureFile$Row" 2 : Cond) ∈ BW := bw0 (List.mem_of_getElem? (l := BW0) (i := 466) rfl)
set_option maxRecDepth 100000 in
theorem kw_467 : (.methodLinkNest "PictureFile" 9 y_Row_init "PictureFile" : Cond) ∈ BW := bw0 (List.mem_of_getElem? (l := BW0) (i := 467) rfl)
set_option maxRecDepth 100000 in
theorem kw_468 : (.code y_Row_init b_Row_init 1 none : Cond) ∈ BW := bw0 (List.mem_of_getElem? (l := BW0) (i := 468) rfl)
set_option maxRecDepth 100000 in
theorem kw_469 : (.instanceMethod y_Row_init : Cond) ∈ BW := bw0 (List.mem_of_getElem? (l := BW0) (i := 469) rfl)
set_option maxRecDepth 100000 in
theorem kw_470 : (.classLink "PictureFile" 16 "PictureFile$Maker" : Cond) ∈ BW := bw0 (List.mem_of_getElem? (l := BW0) (i := 470) rfl)
set_option maxRecDepth 100000 in
theorem kw_471 : (.instantiable "PictureFile$Maker" 14 : Cond) ∈ BW := bw0 (List.mem_of_getElem? (l := BW0) (i := 471) rfl)
set_option maxRecDepth 100000 in
theorem kw_472 : (.methodLinkNest "PictureFile" 18 y_Mk_init "PictureFile" : Cond) ∈ BW := bw0 (List.mem_of_getElem? (l := BW0) (i := 472) rfl)
set_option maxRecDepth 100000 in
theorem kw_473 : (.code y_Mk_init b_Mk_init 2 none : Cond) ∈ BW := bw0 (List.mem_of_getElem? (l := BW0) (i := 473) rfl)
set_option maxRecDepth 100000 in
theorem kw_474 : (.instanceMethod y_Mk_init : Cond) ∈ BW := bw0 (List.mem_of_getElem? (l := BW0) (i := 474) rfl)
set_option maxRecDepth 100000 in
theorem kw_475 : (.classLink "PictureFile" 25 "PictureFile$Reader" : Cond) ∈ BW := bw0 (List.mem_of_getElem? (l := BW0) (i := 475) rfl)
set_option maxRecDepth 100000 in
theorem kw_476 : (.instantiable "PictureFile$Reader" 12 : Cond) ∈ BW := bw0 (List.mem_of_getElem? (l := BW0) (i := 476) rfl)
set_option maxRecDepth 100000 in
theorem kw_477 : (.methodLinkNest "PictureFile" 27 y_Rd_init "PictureFile" : Cond) ∈ BW := bw0 (List.mem_of_getElem? (l := BW0) (i := 477) rfl)
set_option maxRecDepth 100000 in
theorem kw_478 : (.code y_Rd_init b_Rd_init 2 none : Cond) ∈ BW := bw0 (List.mem_of_getElem? (l := BW0) (i := 478) rfl)
set_option maxRecDepth 100000 in
theorem kw_479 : (.instanceMethod y_Rd_init : Cond) ∈ BW := bw0 (List.mem_of_getElem? (l := BW0) (i := 479) rfl)
set_option maxRecDepth 100000 in
theorem kw_480 : (.methodLink "PictureFileModel" 1 objectInit : Cond) ∈ BW := bw0 (List.mem_of_getElem? (l := BW0) (i := 480) rfl)
set_option maxRecDepth 100000 in
theorem kw_481 : (.methodLink "PictureFile" 59 y_PF_isOrder : Cond) ∈ BW := bw0 (List.mem_of_getElem? (l := BW0) (i := 481) rfl)
set_option maxRecDepth 100000 in
theorem kw_482 : (.classLink "PictureFile" 62 "java/lang/IllegalArgumentException" : Cond) ∈ BW := bw0 (List.mem_of_getElem? (l := BW0) (i := 482) rfl)
set_option maxRecDepth 100000 in
theorem kw_483 : (.initialized "java/lang/IllegalArgumentException" : Cond) ∈ BW := bw0 (List.mem_of_getElem? (l := BW0) (i := 483) rfl)
set_option maxRecDepth 100000 in
theorem kw_484 : (.methodLinkNest "PictureFile" 69 y_Mk_startFile "PictureFile" : Cond) ∈ BW := bw0 (List.mem_of_getElem? (l := BW0) (i := 484) rfl)
set_option maxRecDepth 100000 in
theorem kw_485 : (.code y_Mk_startFile b_Mk_startFile 2 none : Cond) ∈ BW := bw0 (List.mem_of_getElem? (l := BW0) (i := 485) rfl)
set_option maxRecDepth 100000 in
theorem kw_486 : (.instanceMethod y_Mk_startFile : Cond) ∈ BW := bw0 (List.mem_of_getElem? (l := BW0) (i := 486) rfl)
set_option maxRecDepth 100000 in
theorem kw_487 : (.selects R_Mk y_Mk_startFile y_Mk_startFile : Cond) ∈ BW := bw0 (List.mem_of_getElem? (l := BW0) (i := 487) rfl)
set_option maxRecDepth 100000 in
theorem kw_488 : (.methodLink "PictureFile" 84 y_PF_isSheet : Cond) ∈ BW := bw0 (List.mem_of_getElem? (l := BW0) (i := 488) rfl)
set_option maxRecDepth 100000 in
theorem kw_489 : (.code y_PF_isSheet b_PF_isSheet 3 (some .boolean) : Cond) ∈ BW := bw0 (List.mem_of_getElem? (l := BW0) (i := 489) rfl)
set_option maxRecDepth 100000 in
theorem kw_490 : (.static y_PF_isSheet : Cond) ∈ BW := bw0 (List.mem_of_getElem? (l := BW0) (i := 490) rfl)
set_option maxRecDepth 100000 in
theorem kw_491 : (.methodLink "PictureFile" 88 y_PF_isFineness : Cond) ∈ BW := bw0 (List.mem_of_getElem? (l := BW0) (i := 491) rfl)
set_option maxRecDepth 100000 in
theorem kw_492 : (.code y_PF_isFineness b_PF_isFineness 1 (some .boolean) : Cond) ∈ BW := bw0 (List.mem_of_getElem? (l := BW0) (i := 492) rfl)
set_option maxRecDepth 100000 in
theorem kw_493 : (.static y_PF_isFineness : Cond) ∈ BW := bw0 (List.mem_of_getElem? (l := BW0) (i := 493) rfl)
set_option maxRecDepth 100000 in
theorem kw_494 : (.classLink "PictureFile" 79 "java/lang/IllegalStateException" : Cond) ∈ BW := bw0 (List.mem_of_getElem? (l := BW0) (i := 494) rfl)
set_option maxRecDepth 100000 in
theorem kw_495 : (.initialized "java/lang/IllegalStateException" : Cond) ∈ BW := bw0 (List.mem_of_getElem? (l := BW0) (i := 495) rfl)
set_option maxRecDepth 100000 in
theorem kw_496 : (.methodLinkNest "PictureFile" 93 y_Mk_startPage "PictureFile" : Cond) ∈ BW := bw0 (List.mem_of_getElem? (l := BW0) (i := 496) rfl)
set_option maxRecDepth 100000 in
theorem kw_497 : (.code y_Mk_startPage b_Mk_startPage 6 none : Cond) ∈ BW := bw0 (List.mem_of_getElem? (l := BW0) (i := 497) rfl)
set_option maxRecDepth 100000 in
theorem kw_498 : (.instanceMethod y_Mk_startPage : Cond) ∈ BW := bw0 (List.mem_of_getElem? (l := BW0) (i := 498) rfl)
set_option maxRecDepth 100000 in
theorem kw_499 : (.selects R_Mk y_Mk_startPage y_Mk_startPage : Cond) ∈ BW := bw0 (List.mem_of_getElem? (l := BW0) (i := 499) rfl)
set_option maxRecDepth 100000 in
theorem kw_500 : (.methodLinkNest "PictureFile" 110 y_Mk_finishStrip "PictureFile" : Cond) ∈ BW := bw0 (List.mem_of_getElem? (l := BW0) (i := 500) rfl)
set_option maxRecDepth 100000 in
theorem kw_501 : (.code y_Mk_finishStrip b_Mk_finishStrip 1 none : Cond) ∈ BW := bw0 (List.mem_of_getElem? (l := BW0) (i := 501) rfl)
set_option maxRecDepth 100000 in
theorem kw_502 : (.instanceMethod y_Mk_finishStrip : Cond) ∈ BW := bw0 (List.mem_of_getElem? (l := BW0) (i := 502) rfl)
set_option maxRecDepth 100000 in
theorem kw_503 : (.selects R_Mk y_Mk_finishStrip y_Mk_finishStrip : Cond) ∈ BW := bw0 (List.mem_of_getElem? (l := BW0) (i := 503) rfl)
set_option maxRecDepth 100000 in
theorem kw_504 : (.methodLinkNest "PictureFile" 113 y_Mk_sizeWithPage "PictureFile" : Cond) ∈ BW := bw0 (List.mem_of_getElem? (l := BW0) (i := 504) rfl)
set_option maxRecDepth 100000 in
theorem kw_505 : (.code y_Mk_sizeWithPage b_Mk_sizeWithPage 2 (some .int) : Cond) ∈ BW := bw0 (List.mem_of_getElem? (l := BW0) (i := 505) rfl)
set_option maxRecDepth 100000 in
theorem kw_506 : (.instanceMethod y_Mk_sizeWithPage : Cond) ∈ BW := bw0 (List.mem_of_getElem? (l := BW0) (i := 506) rfl)
set_option maxRecDepth 100000 in
theorem kw_507 : (.selects R_Mk y_Mk_sizeWithPage y_Mk_sizeWithPage : Cond) ∈ BW := bw0 (List.mem_of_getElem? (l := BW0) (i := 507) rfl)
set_option maxRecDepth 100000 in
theorem kw_508 : (.methodLinkNest "PictureFile" 118 y_Mk_finishPage "PictureFile" : Cond) ∈ BW := bw0 (List.mem_of_getElem? (l := BW0) (i := 508) rfl)
set_option maxRecDepth 100000 in
theorem kw_509 : (.code y_Mk_finishPage b_Mk_finishPage 4 none : Cond) ∈ BW := bw0 (List.mem_of_getElem? (l := BW0) (i := 509) rfl)
set_option maxRecDepth 100000 in
theorem kw_510 : (.instanceMethod y_Mk_finishPage : Cond) ∈ BW := bw0 (List.mem_of_getElem? (l := BW0) (i := 510) rfl)
set_option maxRecDepth 100000 in
theorem kw_511 : (.selects R_Mk y_Mk_finishPage y_Mk_finishPage : Cond) ∈ BW := bw0 (List.mem_of_getElem? (l := BW0) (i := 511) rfl)
set_option maxRecDepth 100000 in
theorem kw_512 : (.methodLinkNest "PictureFile" 125 y_Rd_goThrough "PictureFile" : Cond) ∈ BW := bw0 (List.mem_of_getElem? (l := BW0) (i := 512) rfl)
set_option maxRecDepth 100000 in
theorem kw_513 : (.code y_Rd_goThrough b_Rd_goThrough 4 none : Cond) ∈ BW := bw0 (List.mem_of_getElem? (l := BW0) (i := 513) rfl)
set_option maxRecDepth 100000 in
theorem kw_514 : (.instanceMethod y_Rd_goThrough : Cond) ∈ BW := bw0 (List.mem_of_getElem? (l := BW0) (i := 514) rfl)
set_option maxRecDepth 100000 in
theorem kw_515 : (.selects R_Rd y_Rd_goThrough y_Rd_goThrough : Cond) ∈ BW := bw0 (List.mem_of_getElem? (l := BW0) (i := 515) rfl)
set_option maxRecDepth 100000 in
theorem kw_516 : (.fieldLinkNest "PictureFile" 128 "PictureFile$Reader" "faultKind" "I" "PictureFile" : Cond) ∈ BW := bw0 (List.mem_of_getElem? (l := BW0) (i := 516) rfl)
set_option maxRecDepth 100000 in
theorem kw_517 : (.methodLinkNest "PictureFile" 136 y_Rd_hasPage "PictureFile" : Cond) ∈ BW := bw0 (List.mem_of_getElem? (l := BW0) (i := 517) rfl)
set_option maxRecDepth 100000 in
theorem kw_518 : (.classLink "PictureFile" 141 "java/lang/IndexOutOfBoundsException" : Cond) ∈ BW := bw0 (List.mem_of_getElem? (l := BW0) (i := 518) rfl)
set_option maxRecDepth 100000 in
theorem kw_519 : (.initialized "java/lang/IndexOutOfBoundsException" : Cond) ∈ BW := bw0 (List.mem_of_getElem? (l := BW0) (i := 519) rfl)
set_option maxRecDepth 100000 in
theorem kw_520 : (.fieldLinkNest "PictureFile" 146 "PictureFile$Reader" "numbers" "LPictureFile$PageNumbers;" "PictureFile" : Cond) ∈ BW := bw0 (List.mem_of_getElem? (l := BW0) (i := 520) rfl)
set_option maxRecDepth 100000 in
theorem kw_521 : (.methodLinkNest "PictureFile" 150 y_Pn_get "PictureFile" : Cond) ∈ BW := bw0 (List.mem_of_getElem? (l := BW0) (i := 521) rfl)
set_option maxRecDepth 100000 in
theorem kw_522 : (.methodLinkNest "PictureFile" 154 y_Rd_hasStrip "PictureFile" : Cond) ∈ BW := bw0 (List.mem_of_getElem? (l := BW0) (i := 522) rfl)
set_option maxRecDepth 100000 in
theorem kw_523 : (.code y_Rd_hasStrip b_Rd_hasStrip 3 (some .boolean) : Cond) ∈ BW := bw0 (List.mem_of_getElem? (l := BW0) (i := 523) rfl)
set_option maxRecDepth 100000 in
theorem kw_524 : (.instanceMethod y_Rd_hasStrip : Cond) ∈ BW := bw0 (List.mem_of_getElem? (l := BW0) (i := 524) rfl)
set_option maxRecDepth 100000 in
theorem kw_525 : (.selects R_Rd y_Rd_hasStrip y_Rd_hasStrip : Cond) ∈ BW := bw0 (List.mem_of_getElem? (l := BW0) (i := 525) rfl)
set_option maxRecDepth 100000 in
theorem kw_526 : (.methodLinkNest "PictureFile" 162 y_Rd_ofStrip "PictureFile" : Cond) ∈ BW := bw0 (List.mem_of_getElem? (l := BW0) (i := 526) rfl)
set_option maxRecDepth 100000 in
theorem kw_527 : (.code y_Rd_ofStrip b_Rd_ofStrip 4 (some .int) : Cond) ∈ BW := bw0 (List.mem_of_getElem? (l := BW0) (i := 527) rfl)
set_option maxRecDepth 100000 in
theorem kw_528 : (.instanceMethod y_Rd_ofStrip : Cond) ∈ BW := bw0 (List.mem_of_getElem? (l := BW0) (i := 528) rfl)
set_option maxRecDepth 100000 in
theorem kw_529 : (.selects R_Rd y_Rd_ofStrip y_Rd_ofStrip : Cond) ∈ BW := bw0 (List.mem_of_getElem? (l := BW0) (i := 529) rfl)
set_option maxRecDepth 100000 in
theorem kw_530 : (.methodLinkNest "PictureFile" 170 y_Row_at "PictureFile" : Cond) ∈ BW := bw0 (List.mem_of_getElem? (l := BW0) (i := 530) rfl)
set_option maxRecDepth 100000 in
theorem kw_531 : (.methodLink "PictureFileLaw" 7 y_PF_begin : Cond) ∈ BW := bw0 (List.mem_of_getElem? (l := BW0) (i := 531) rfl)
set_option maxRecDepth 100000 in
theorem kw_532 : (.code y_PF_begin b_PF_begin 2 none : Cond) ∈ BW := bw0 (List.mem_of_getElem? (l := BW0) (i := 532) rfl)
set_option maxRecDepth 100000 in
theorem kw_533 : (.instanceMethod y_PF_begin : Cond) ∈ BW := bw0 (List.mem_of_getElem? (l := BW0) (i := 533) rfl)
set_option maxRecDepth 100000 in
theorem kw_534 : (.selects R_PF y_PF_begin y_PF_begin : Cond) ∈ BW := bw0 (List.mem_of_getElem? (l := BW0) (i := 534) rfl)
set_option maxRecDepth 100000 in
theorem kw_535 : (.classLink "PictureFileLaw" 13 "java/lang/IllegalArgumentException" : Cond) ∈ BW := bw0 (List.mem_of_getElem? (l := BW0) (i := 535) rfl)
set_option maxRecDepth 100000 in
theorem kw_536 : (.castable "java/lang/IllegalArgumentException" "java/lang/IllegalArgumentException" : Cond) ∈ BW := bw0 (List.mem_of_getElem? (l := BW0) (i := 536) rfl)
set_option maxRecDepth 100000 in
theorem kw_537 : (.codeWith y_Lw_begin b_Lw_begin 3 (some .int) [(0, 5, 8, 13)] : Cond) ∈ BW := bw0 (List.mem_of_getElem? (l := BW0) (i := 537) rfl)
set_option maxRecDepth 100000 in
theorem kw_538 : (.methodLink "PictureFileLaw" 15 y_PF_page : Cond) ∈ BW := bw0 (List.mem_of_getElem? (l := BW0) (i := 538) rfl)
set_option maxRecDepth 100000 in
theorem kw_539 : (.code y_PF_page b_PF_page 6 (some .int) : Cond) ∈ BW := bw0 (List.mem_of_getElem? (l := BW0) (i := 539) rfl)
set_option maxRecDepth 100000 in
theorem kw_540 : (.instanceMethod y_PF_page : Cond) ∈ BW := bw0 (List.mem_of_getElem? (l := BW0) (i := 540) rfl)
set_option maxRecDepth 100000 in
theorem kw_541 : (.selects R_PF y_PF_page y_PF_page : Cond) ∈ BW := bw0 (List.mem_of_getElem? (l := BW0) (i := 541) rfl)
set_option maxRecDepth 100000 in
theorem kw_542 : (.classLink "PictureFileLaw" 19 "java/lang/IllegalStateException" : Cond) ∈ BW := bw0 (List.mem_of_getElem? (l := BW0) (i := 542) rfl)
set_option maxRecDepth 100000 in
theorem kw_543 : (.castable "java/lang/IllegalStateException" "java/lang/IllegalStateException" : Cond) ∈ BW := bw0 (List.mem_of_getElem? (l := BW0) (i := 543) rfl)
set_option maxRecDepth 100000 in
theorem kw_544 : (.codeWith y_Lw_page b_Lw_page 8 (some .int) [(0, 16, 19, 19), (0, 16, 23, 13)] : Cond) ∈ BW := bw0 (List.mem_of_getElem? (l := BW0) (i := 544) rfl)
set_option maxRecDepth 100000 in
theorem kw_545 : (.methodLink "PictureFileLaw" 21 y_PF_strip : Cond) ∈ BW := bw0 (List.mem_of_getElem? (l := BW0) (i := 545) rfl)
set_option maxRecDepth 100000 in
theorem kw_546 : (.code y_PF_strip b_PF_strip 1 (some .int) : Cond) ∈ BW := bw0 (List.mem_of_getElem? (l := BW0) (i := 546) rfl)
set_option maxRecDepth 100000 in
theorem kw_547 : (.instanceMethod y_PF_strip : Cond) ∈ BW := bw0 (List.mem_of_getElem? (l := BW0) (i := 547) rfl)
set_option maxRecDepth 100000 in
theorem kw_548 : (.selects R_PF y_PF_strip y_PF_strip : Cond) ∈ BW := bw0 (List.mem_of_getElem? (l := BW0) (i := 548) rfl)
set_option maxRecDepth 100000 in
theorem kw_549 : (.codeWith y_Lw_strip b_Lw_strip 3 (some .int) [(0, 8, 11, 19)] : Cond) ∈ BW := bw0 (List.mem_of_getElem? (l := BW0) (i := 549) rfl)
set_option maxRecDepth 100000 in
theorem kw_550 : (.methodLink "PictureFileLaw" 25 y_PF_close : Cond) ∈ BW := bw0 (List.mem_of_getElem? (l := BW0) (i := 550) rfl)
set_option maxRecDepth 100000 in
theorem kw_551 : (.code y_PF_close b_PF_close 1 (some .int) : Cond) ∈ BW := bw0 (List.mem_of_getElem? (l := BW0) (i := 551) rfl)
set_option maxRecDepth 100000 in
theorem kw_552 : (.instanceMethod y_PF_close : Cond) ∈ BW := bw0 (List.mem_of_getElem? (l := BW0) (i := 552) rfl)
set_option maxRecDepth 100000 in
theorem kw_553 : (.selects R_PF y_PF_close y_PF_close : Cond) ∈ BW := bw0 (List.mem_of_getElem? (l := BW0) (i := 553) rfl)
set_option maxRecDepth 100000 in
theorem kw_554 : (.codeWith y_Lw_close b_Lw_close 3 (some .int) [(0, 8, 11, 19)] : Cond) ∈ BW := bw0 (List.mem_of_getElem? (l := BW0) (i := 554) rfl)
set_option maxRecDepth 100000 in
theorem kw_555 : (.methodLink "PictureFileLaw" 28 y_PF_end : Cond) ∈ BW := bw0 (List.mem_of_getElem? (l := BW0) (i := 555) rfl)
set_option maxRecDepth 100000 in
theorem kw_556 : (.code y_PF_end b_PF_end 1 (some .int) : Cond) ∈ BW := bw0 (List.mem_of_getElem? (l := BW0) (i := 556) rfl)
set_option maxRecDepth 100000 in
theorem kw_557 : (.instanceMethod y_PF_end : Cond) ∈ BW := bw0 (List.mem_of_getElem? (l := BW0) (i := 557) rfl)
set_option maxRecDepth 100000 in
theorem kw_558 : (.selects R_PF y_PF_end y_PF_end : Cond) ∈ BW := bw0 (List.mem_of_getElem? (l := BW0) (i := 558) rfl)
set_option maxRecDepth 100000 in
theorem kw_559 : (.codeWith y_Lw_end b_Lw_end 3 (some .int) [(0, 8, 11, 19)] : Cond) ∈ BW := bw0 (List.mem_of_getElem? (l := BW0) (i := 559) rfl)
set_option maxRecDepth 100000 in
theorem kw_560 : (.methodLink "PictureFileLaw" 31 y_PF_read : Cond) ∈ BW := bw0 (List.mem_of_getElem? (l := BW0) (i := 560) rfl)
set_option maxRecDepth 100000 in
theorem kw_561 : (.code y_PF_read b_PF_read 1 (some .int) : Cond) ∈ BW := bw0 (List.mem_of_getElem? (l := BW0) (i := 561) rfl)
set_option maxRecDepth 100000 in
theorem kw_562 : (.instanceMethod y_PF_read : Cond) ∈ BW := bw0 (List.mem_of_getElem? (l := BW0) (i := 562) rfl)
set_option maxRecDepth 100000 in
theorem kw_563 : (.selects R_PF y_PF_read y_PF_read : Cond) ∈ BW := bw0 (List.mem_of_getElem? (l := BW0) (i := 563) rfl)
set_option maxRecDepth 100000 in
theorem kw_564 : (.codeWith y_Lw_read b_Lw_read 3 (some .int) [(0, 8, 11, 19)] : Cond) ∈ BW := bw0 (List.mem_of_getElem? (l := BW0) (i := 564) rfl)
set_option maxRecDepth 100000 in
theorem kw_565 : (.methodLink "PictureFileLaw" 34 y_PF_of : Cond) ∈ BW := bw0 (List.mem_of_getElem? (l := BW0) (i := 565) rfl)
set_option maxRecDepth 100000 in
theorem kw_566 : (.code y_PF_of b_PF_of 3 (some .long) : Cond) ∈ BW := bw0 (List.mem_of_getElem? (l := BW0) (i := 566) rfl)
set_option maxRecDepth 100000 in
theorem kw_567 : (.instanceMethod y_PF_of : Cond) ∈ BW := bw0 (List.mem_of_getElem? (l := BW0) (i := 567) rfl)
set_option maxRecDepth 100000 in
theorem kw_568 : (.selects R_PF y_PF_of y_PF_of : Cond) ∈ BW := bw0 (List.mem_of_getElem? (l := BW0) (i := 568) rfl)
set_option maxRecDepth 100000 in
theorem kw_569 : (.classLink "PictureFileLaw" 38 "java/lang/IndexOutOfBoundsException" : Cond) ∈ BW := bw0 (List.mem_of_getElem? (l := BW0) (i := 569) rfl)
set_option maxRecDepth 100000 in
theorem kw_570 : (.castable "java/lang/IndexOutOfBoundsException" "java/lang/IndexOutOfBoundsException" : Cond) ∈ BW := bw0 (List.mem_of_getElem? (l := BW0) (i := 570) rfl)
set_option maxRecDepth 100000 in
theorem kw_571 : (.codeWith y_Lw_of b_Lw_of 5 (some .int) [(0, 9, 12, 38)] : Cond) ∈ BW := bw0 (List.mem_of_getElem? (l := BW0) (i := 571) rfl)
set_option maxRecDepth 100000 in
theorem kw_572 : (.methodLink "PictureFileLaw" 40 y_PF_where : Cond) ∈ BW := bw0 (List.mem_of_getElem? (l := BW0) (i := 572) rfl)
set_option maxRecDepth 100000 in
theorem kw_573 : (.code y_PF_where b_PF_where 4 (some .int) : Cond) ∈ BW := bw0 (List.mem_of_getElem? (l := BW0) (i := 573) rfl)
set_option maxRecDepth 100000 in
theorem kw_574 : (.instanceMethod y_PF_where : Cond) ∈ BW := bw0 (List.mem_of_getElem? (l := BW0) (i := 574) rfl)
set_option maxRecDepth 100000 in
theorem kw_575 : (.selects R_PF y_PF_where y_PF_where : Cond) ∈ BW := bw0 (List.mem_of_getElem? (l := BW0) (i := 575) rfl)
set_option maxRecDepth 100000 in
theorem kw_576 : (.codeWith y_Lw_where b_Lw_where 6 (some .int) [(0, 12, 15, 38)] : Cond) ∈ BW := bw0 (List.mem_of_getElem? (l := BW0) (i := 576) rfl)
set_option maxRecDepth 100000 in
theorem kw_577 : (.methodLink "PictureFileLaw" 44 y_PF_dots : Cond) ∈ BW := bw0 (List.mem_of_getElem? (l := BW0) (i := 577) rfl)
set_option maxRecDepth 100000 in
theorem kw_578 : (.code y_PF_dots b_PF_dots 5 (some .int) : Cond) ∈ BW := bw0 (List.mem_of_getElem? (l := BW0) (i := 578) rfl)
set_option maxRecDepth 100000 in
theorem kw_579 : (.instanceMethod y_PF_dots : Cond) ∈ BW := bw0 (List.mem_of_getElem? (l := BW0) (i := 579) rfl)
set_option maxRecDepth 100000 in
theorem kw_580 : (.selects R_PF y_PF_dots y_PF_dots : Cond) ∈ BW := bw0 (List.mem_of_getElem? (l := BW0) (i := 580) rfl)
set_option maxRecDepth 100000 in
theorem kw_581 : (.codeWith y_Lw_dots b_Lw_dots 6 (some .int) [(0, 12, 15, 38)] : Cond) ∈ BW := bw0 (List.mem_of_getElem? (l := BW0) (i := 581) rfl)
set_option maxRecDepth 100000 in
theorem kw_582 : (.constantLong "PictureFileLaw" 51 4294967295 : Cond) ∈ BW := bw0 (List.mem_of_getElem? (l := BW0) (i := 582) rfl)
set_option maxRecDepth 100000 in
theorem kw_583 : (.methodLink "PictureFileLaw" 53 y_PF_give : Cond) ∈ BW := bw0 (List.mem_of_getElem? (l := BW0) (i := 583) rfl)
set_option maxRecDepth 100000 in
theorem kw_584 : (.code y_PF_give b_PF_give 4 (some .boolean) : Cond) ∈ BW := bw0 (List.mem_of_getElem? (l := BW0) (i := 584) rfl)
set_option maxRecDepth 100000 in
theorem kw_585 : (.instanceMethod y_PF_give : Cond) ∈ BW := bw0 (List.mem_of_getElem? (l := BW0) (i := 585) rfl)
set_option maxRecDepth 100000 in
theorem kw_586 : (.selects R_PF y_PF_give y_PF_give : Cond) ∈ BW := bw0 (List.mem_of_getElem? (l := BW0) (i := 586) rfl)
set_option maxRecDepth 100000 in
theorem kw_587 : (.methodLink "PictureFileLaw" 57 y_Md_give : Cond) ∈ BW := bw0 (List.mem_of_getElem? (l := BW0) (i := 587) rfl)
set_option maxRecDepth 100000 in
theorem kw_588 : (.code y_Md_give b_Md_give 5 (some .boolean) : Cond) ∈ BW := bw0 (List.mem_of_getElem? (l := BW0) (i := 588) rfl)
set_option maxRecDepth 100000 in
theorem kw_589 : (.instanceMethod y_Md_give : Cond) ∈ BW := bw0 (List.mem_of_getElem? (l := BW0) (i := 589) rfl)
set_option maxRecDepth 100000 in
theorem kw_590 : (.selects R_Md y_Md_give y_Md_give : Cond) ∈ BW := bw0 (List.mem_of_getElem? (l := BW0) (i := 590) rfl)
set_option maxRecDepth 100000 in
theorem kw_591 : (.methodLink "PictureFileLaw" 58 y_PF_poke : Cond) ∈ BW := bw0 (List.mem_of_getElem? (l := BW0) (i := 591) rfl)
set_option maxRecDepth 100000 in
theorem kw_592 : (.code y_PF_poke b_PF_poke 3 (some .boolean) : Cond) ∈ BW := bw0 (List.mem_of_getElem? (l := BW0) (i := 592) rfl)
set_option maxRecDepth 100000 in
theorem kw_593 : (.instanceMethod y_PF_poke : Cond) ∈ BW := bw0 (List.mem_of_getElem? (l := BW0) (i := 593) rfl)
set_option maxRecDepth 100000 in
theorem kw_594 : (.selects R_PF y_PF_poke y_PF_poke : Cond) ∈ BW := bw0 (List.mem_of_getElem? (l := BW0) (i := 594) rfl)
set_option maxRecDepth 100000 in
theorem kw_595 : (.methodLink "PictureFileLaw" 62 y_Md_poke : Cond) ∈ BW := bw0 (List.mem_of_getElem? (l := BW0) (i := 595) rfl)
set_option maxRecDepth 100000 in
theorem kw_596 : (.code y_Md_poke b_Md_poke 3 (some .boolean) : Cond) ∈ BW := bw0 (List.mem_of_getElem? (l := BW0) (i := 596) rfl)
set_option maxRecDepth 100000 in
theorem kw_597 : (.instanceMethod y_Md_poke : Cond) ∈ BW := bw0 (List.mem_of_getElem? (l := BW0) (i := 597) rfl)
set_option maxRecDepth 100000 in
theorem kw_598 : (.selects R_Md y_Md_poke y_Md_poke : Cond) ∈ BW := bw0 (List.mem_of_getElem? (l := BW0) (i := 598) rfl)
set_option maxRecDepth 100000 in
theorem kw_599 : (.methodLink "PictureFileLaw" 63 y_PF_cut : Cond) ∈ BW := bw0 (List.mem_of_getElem? (l := BW0) (i := 599) rfl)
set_option maxRecDepth 100000 in
theorem kw_600 : (.code y_PF_cut b_PF_cut 2 (some .boolean) : Cond) ∈ BW := bw0 (List.mem_of_getElem? (l := BW0) (i := 600) rfl)
set_option maxRecDepth 100000 in
theorem kw_601 : (.instanceMethod y_PF_cut : Cond) ∈ BW := bw0 (List.mem_of_getElem? (l := BW0) (i := 601) rfl)
set_option maxRecDepth 100000 in
theorem kw_602 : (.selects R_PF y_PF_cut y_PF_cut : Cond) ∈ BW := bw0 (List.mem_of_getElem? (l := BW0) (i := 602) rfl)
set_option maxRecDepth 100000 in
theorem kw_603 : (.methodLink "PictureFileLaw" 67 y_Md_cut : Cond) ∈ BW := bw0 (List.mem_of_getElem? (l := BW0) (i := 603) rfl)
set_option maxRecDepth 100000 in
theorem kw_604 : (.code y_Md_cut b_Md_cut 2 (some .boolean) : Cond) ∈ BW := bw0 (List.mem_of_getElem? (l := BW0) (i := 604) rfl)
set_option maxRecDepth 100000 in
theorem kw_605 : (.instanceMethod y_Md_cut : Cond) ∈ BW := bw0 (List.mem_of_getElem? (l := BW0) (i := 605) rfl)
set_option maxRecDepth 100000 in
theorem kw_606 : (.selects R_Md y_Md_cut y_Md_cut : Cond) ∈ BW := bw0 (List.mem_of_getElem? (l := BW0) (i := 606) rfl)
set_option maxRecDepth 100000 in
theorem kw_607 : (.methodLink "PictureFileLaw" 68 y_PF_bytes : Cond) ∈ BW := bw0 (List.mem_of_getElem? (l := BW0) (i := 607) rfl)
set_option maxRecDepth 100000 in
theorem kw_608 : (.code y_PF_bytes b_PF_bytes 2 (some .long) : Cond) ∈ BW := bw0 (List.mem_of_getElem? (l := BW0) (i := 608) rfl)
set_option maxRecDepth 100000 in
theorem kw_609 : (.instanceMethod y_PF_bytes : Cond) ∈ BW := bw0 (List.mem_of_getElem? (l := BW0) (i := 609) rfl)
set_option maxRecDepth 100000 in
theorem kw_610 : (.selects R_PF y_PF_bytes y_PF_bytes : Cond) ∈ BW := bw0 (List.mem_of_getElem? (l := BW0) (i := 610) rfl)
set_option maxRecDepth 100000 in
theorem kw_611 : (.methodLink "PictureFileLaw" 72 y_Md_bytes : Cond) ∈ BW := bw0 (List.mem_of_getElem? (l := BW0) (i := 611) rfl)
set_option maxRecDepth 100000 in
theorem kw_612 : (.code y_Md_bytes b_Md_bytes 6 (some .long) : Cond) ∈ BW := bw0 (List.mem_of_getElem? (l := BW0) (i := 612) rfl)
set_option maxRecDepth 100000 in
theorem kw_613 : (.instanceMethod y_Md_bytes : Cond) ∈ BW := bw0 (List.mem_of_getElem? (l := BW0) (i := 613) rfl)
set_option maxRecDepth 100000 in
theorem kw_614 : (.selects R_Md y_Md_bytes y_Md_bytes : Cond) ∈ BW := bw0 (List.mem_of_getElem? (l := BW0) (i := 614) rfl)
set_option maxRecDepth 100000 in
theorem kw_615 : (.methodLink "PictureFileLaw" 73 y_Lw_begin : Cond) ∈ BW := bw0 (List.mem_of_getElem? (l := BW0) (i := 615) rfl)
set_option maxRecDepth 100000 in
theorem kw_616 : (.initialized "PictureFileLaw" : Cond) ∈ BW := bw0 (List.mem_of_getElem? (l := BW0) (i := 616) rfl)
set_option maxRecDepth 100000 in
theorem kw_617 : (.static y_Lw_begin : Cond) ∈ BW := bw0 (List.mem_of_getElem? (l := BW0) (i := 617) rfl)
set_option maxRecDepth 100000 in
theorem kw_618 : (.methodLink "PictureFileLaw" 78 y_Md_begin : Cond) ∈ BW := bw0 (List.mem_of_getElem? (l := BW0) (i := 618) rfl)
set_option maxRecDepth 100000 in
theorem kw_619 : (.code y_Md_begin b_Md_begin 2 none : Cond) ∈ BW := bw0 (List.mem_of_getElem? (l := BW0) (i := 619) rfl)
set_option maxRecDepth 100000 in
theorem kw_620 : (.instanceMethod y_Md_begin : Cond) ∈ BW := bw0 (List.mem_of_getElem? (l := BW0) (i := 620) rfl)
set_option maxRecDepth 100000 in
theorem kw_621 : (.selects R_Md y_Md_begin y_Md_begin : Cond) ∈ BW := bw0 (List.mem_of_getElem? (l := BW0) (i := 621) rfl)
set_option maxRecDepth 100000 in
theorem kw_622 : (.methodLink "PictureFileLaw" 79 y_Md_thrown : Cond) ∈ BW := bw0 (List.mem_of_getElem? (l := BW0) (i := 622) rfl)
set_option maxRecDepth 100000 in
theorem kw_623 : (.code y_Md_thrown b_Md_thrown 1 (some .int) : Cond) ∈ BW := bw0 (List.mem_of_getElem? (l := BW0) (i := 623) rfl)
set_option maxRecDepth 100000 in
theorem kw_624 : (.instanceMethod y_Md_thrown : Cond) ∈ BW := bw0 (List.mem_of_getElem? (l := BW0) (i := 624) rfl)
set_option maxRecDepth 100000 in
theorem kw_625 : (.selects R_Md y_Md_thrown y_Md_thrown : Cond) ∈ BW := bw0 (List.mem_of_getElem? (l := BW0) (i := 625) rfl)
set_option maxRecDepth 100000 in
theorem kw_626 : (.methodLink "PictureFileLaw" 82 y_Lw_page : Cond) ∈ BW := bw0 (List.mem_of_getElem? (l := BW0) (i := 626) rfl)
set_option maxRecDepth 100000 in
theorem kw_627 : (.static y_Lw_page : Cond) ∈ BW := bw0 (List.mem_of_getElem? (l := BW0) (i := 627) rfl)
set_option maxRecDepth 100000 in
theorem kw_628 : (.methodLink "PictureFileLaw" 85 y_Md_page : Cond) ∈ BW := bw0 (List.mem_of_getElem? (l := BW0) (i := 628) rfl)
set_option maxRecDepth 100000 in
theorem kw_629 : (.code y_Md_page b_Md_page 8 (some .int) : Cond) ∈ BW := bw0 (List.mem_of_getElem? (l := BW0) (i := 629) rfl)
set_option maxRecDepth 100000 in
theorem kw_630 : (.instanceMethod y_Md_page : Cond) ∈ BW := bw0 (List.mem_of_getElem? (l := BW0) (i := 630) rfl)
set_option maxRecDepth 100000 in
theorem kw_631 : (.selects R_Md y_Md_page y_Md_page : Cond) ∈ BW := bw0 (List.mem_of_getElem? (l := BW0) (i := 631) rfl)
set_option maxRecDepth 100000 in
theorem kw_632 : (.methodLink "PictureFileLaw" 86 y_PF_put : Cond) ∈ BW := bw0 (List.mem_of_getElem? (l := BW0) (i := 632) rfl)
set_option maxRecDepth 100000 in
theorem kw_633 : (.code y_PF_put b_PF_put 4 (some .boolean) : Cond) ∈ BW := bw0 (List.mem_of_getElem? (l := BW0) (i := 633) rfl)
set_option maxRecDepth 100000 in
theorem kw_634 : (.instanceMethod y_PF_put : Cond) ∈ BW := bw0 (List.mem_of_getElem? (l := BW0) (i := 634) rfl)
set_option maxRecDepth 100000 in
theorem kw_635 : (.selects R_PF y_PF_put y_PF_put : Cond) ∈ BW := bw0 (List.mem_of_getElem? (l := BW0) (i := 635) rfl)
set_option maxRecDepth 100000 in
theorem kw_636 : (.methodLink "PictureFileLaw" 89 y_Md_put : Cond) ∈ BW := bw0 (List.mem_of_getElem? (l := BW0) (i := 636) rfl)
set_option maxRecDepth 100000 in
theorem kw_637 : (.code y_Md_put b_Md_put 6 (some .boolean) : Cond) ∈ BW := bw0 (List.mem_of_getElem? (l := BW0) (i := 637) rfl)
set_option maxRecDepth 100000 in
theorem kw_638 : (.instanceMethod y_Md_put : Cond) ∈ BW := bw0 (List.mem_of_getElem? (l := BW0) (i := 638) rfl)
set_option maxRecDepth 100000 in
theorem kw_639 : (.selects R_Md y_Md_put y_Md_put : Cond) ∈ BW := bw0 (List.mem_of_getElem? (l := BW0) (i := 639) rfl)
set_option maxRecDepth 100000 in
theorem kw_640 : (.methodLink "PictureFileLaw" 90 y_Lw_strip : Cond) ∈ BW := bw0 (List.mem_of_getElem? (l := BW0) (i := 640) rfl)
set_option maxRecDepth 100000 in
theorem kw_641 : (.static y_Lw_strip : Cond) ∈ BW := bw0 (List.mem_of_getElem? (l := BW0) (i := 641) rfl)
set_option maxRecDepth 100000 in
theorem kw_642 : (.methodLink "PictureFileLaw" 93 y_Md_strip : Cond) ∈ BW := bw0 (List.mem_of_getElem? (l := BW0) (i := 642) rfl)
set_option maxRecDepth 100000 in
theorem kw_643 : (.code y_Md_strip b_Md_strip 1 (some .int) : Cond) ∈ BW := bw0 (List.mem_of_getElem? (l := BW0) (i := 643) rfl)
set_option maxRecDepth 100000 in
theorem kw_644 : (.instanceMethod y_Md_strip : Cond) ∈ BW := bw0 (List.mem_of_getElem? (l := BW0) (i := 644) rfl)
set_option maxRecDepth 100000 in
theorem kw_645 : (.selects R_Md y_Md_strip y_Md_strip : Cond) ∈ BW := bw0 (List.mem_of_getElem? (l := BW0) (i := 645) rfl)
set_option maxRecDepth 100000 in
theorem kw_646 : (.methodLink "PictureFileLaw" 94 y_Lw_close : Cond) ∈ BW := bw0 (List.mem_of_getElem? (l := BW0) (i := 646) rfl)
set_option maxRecDepth 100000 in
theorem kw_647 : (.static y_Lw_close : Cond) ∈ BW := bw0 (List.mem_of_getElem? (l := BW0) (i := 647) rfl)
set_option maxRecDepth 100000 in
theorem kw_648 : (.methodLink "PictureFileLaw" 96 y_Md_close : Cond) ∈ BW := bw0 (List.mem_of_getElem? (l := BW0) (i := 648) rfl)
set_option maxRecDepth 100000 in
theorem kw_649 : (.code y_Md_close b_Md_close 4 (some .int) : Cond) ∈ BW := bw0 (List.mem_of_getElem? (l := BW0) (i := 649) rfl)
set_option maxRecDepth 100000 in
theorem kw_650 : (.instanceMethod y_Md_close : Cond) ∈ BW := bw0 (List.mem_of_getElem? (l := BW0) (i := 650) rfl)
set_option maxRecDepth 100000 in
theorem kw_651 : (.selects R_Md y_Md_close y_Md_close : Cond) ∈ BW := bw0 (List.mem_of_getElem? (l := BW0) (i := 651) rfl)
set_option maxRecDepth 100000 in
theorem kw_652 : (.methodLink "PictureFileLaw" 97 y_Lw_end : Cond) ∈ BW := bw0 (List.mem_of_getElem? (l := BW0) (i := 652) rfl)
set_option maxRecDepth 100000 in
theorem kw_653 : (.static y_Lw_end : Cond) ∈ BW := bw0 (List.mem_of_getElem? (l := BW0) (i := 653) rfl)
set_option maxRecDepth 100000 in
theorem kw_654 : (.methodLink "PictureFileLaw" 99 y_Md_end : Cond) ∈ BW := bw0 (List.mem_of_getElem? (l := BW0) (i := 654) rfl)
set_option maxRecDepth 100000 in
theorem kw_655 : (.code y_Md_end b_Md_end 1 (some .int) : Cond) ∈ BW := bw0 (List.mem_of_getElem? (l := BW0) (i := 655) rfl)
set_option maxRecDepth 100000 in
theorem kw_656 : (.instanceMethod y_Md_end : Cond) ∈ BW := bw0 (List.mem_of_getElem? (l := BW0) (i := 656) rfl)
set_option maxRecDepth 100000 in
theorem kw_657 : (.selects R_Md y_Md_end y_Md_end : Cond) ∈ BW := bw0 (List.mem_of_getElem? (l := BW0) (i := 657) rfl)
set_option maxRecDepth 100000 in
theorem kw_658 : (.methodLink "PictureFileLaw" 100 y_Lw_read : Cond) ∈ BW := bw0 (List.mem_of_getElem? (l := BW0) (i := 658) rfl)
set_option maxRecDepth 100000 in
theorem kw_659 : (.static y_Lw_read : Cond) ∈ BW := bw0 (List.mem_of_getElem? (l := BW0) (i := 659) rfl)
set_option maxRecDepth 100000 in
theorem kw_660 : (.methodLink "PictureFileLaw" 102 y_Md_read : Cond) ∈ BW := bw0 (List.mem_of_getElem? (l := BW0) (i := 660) rfl)
set_option maxRecDepth 100000 in
theorem kw_661 : (.code y_Md_read b_Md_read 3 (some .int) : Cond) ∈ BW := bw0 (List.mem_of_getElem? (l := BW0) (i := 661) rfl)
set_option maxRecDepth 100000 in
theorem kw_662 : (.instanceMethod y_Md_read : Cond) ∈ BW := bw0 (List.mem_of_getElem? (l := BW0) (i := 662) rfl)
set_option maxRecDepth 100000 in
theorem kw_663 : (.selects R_Md y_Md_read y_Md_read : Cond) ∈ BW := bw0 (List.mem_of_getElem? (l := BW0) (i := 663) rfl)
set_option maxRecDepth 100000 in
theorem kw_664 : (.methodLink "PictureFileLaw" 103 y_PF_fault : Cond) ∈ BW := bw0 (List.mem_of_getElem? (l := BW0) (i := 664) rfl)
set_option maxRecDepth 100000 in
theorem kw_665 : (.code y_PF_fault b_PF_fault 2 (some .int) : Cond) ∈ BW := bw0 (List.mem_of_getElem? (l := BW0) (i := 665) rfl)
set_option maxRecDepth 100000 in
theorem kw_666 : (.instanceMethod y_PF_fault : Cond) ∈ BW := bw0 (List.mem_of_getElem? (l := BW0) (i := 666) rfl)
set_option maxRecDepth 100000 in
theorem kw_667 : (.selects R_PF y_PF_fault y_PF_fault : Cond) ∈ BW := bw0 (List.mem_of_getElem? (l := BW0) (i := 667) rfl)
set_option maxRecDepth 100000 in
theorem kw_668 : (.methodLink "PictureFileLaw" 107 y_Md_fault : Cond) ∈ BW := bw0 (List.mem_of_getElem? (l := BW0) (i := 668) rfl)
set_option maxRecDepth 100000 in
theorem kw_669 : (.code y_Md_fault b_Md_fault 2 (some .int) : Cond) ∈ BW := bw0 (List.mem_of_getElem? (l := BW0) (i := 669) rfl)
set_option maxRecDepth 100000 in
theorem kw_670 : (.instanceMethod y_Md_fault : Cond) ∈ BW := bw0 (List.mem_of_getElem? (l := BW0) (i := 670) rfl)
set_option maxRecDepth 100000 in
theorem kw_671 : (.selects R_Md y_Md_fault y_Md_fault : Cond) ∈ BW := bw0 (List.mem_of_getElem? (l := BW0) (i := 671) rfl)
set_option maxRecDepth 100000 in
theorem kw_672 : (.methodLink "PictureFileLaw" 108 y_Lw_of : Cond) ∈ BW := bw0 (List.mem_of_getElem? (l := BW0) (i := 672) rfl)
set_option maxRecDepth 100000 in
theorem kw_673 : (.static y_Lw_of : Cond) ∈ BW := bw0 (List.mem_of_getElem? (l := BW0) (i := 673) rfl)
set_option maxRecDepth 100000 in
theorem kw_674 : (.methodLink "PictureFileLaw" 111 y_Md_of : Cond) ∈ BW := bw0 (List.mem_of_getElem? (l := BW0) (i := 674) rfl)
set_option maxRecDepth 100000 in
theorem kw_675 : (.code y_Md_of b_Md_of 3 (some .long) : Cond) ∈ BW := bw0 (List.mem_of_getElem? (l := BW0) (i := 675) rfl)
set_option maxRecDepth 100000 in
theorem kw_676 : (.instanceMethod y_Md_of : Cond) ∈ BW := bw0 (List.mem_of_getElem? (l := BW0) (i := 676) rfl)
set_option maxRecDepth 100000 in
theorem kw_677 : (.selects R_Md y_Md_of y_Md_of : Cond) ∈ BW := bw0 (List.mem_of_getElem? (l := BW0) (i := 677) rfl)
set_option maxRecDepth 100000 in
theorem kw_678 : (.methodLink "PictureFileLaw" 112 y_Lw_where : Cond) ∈ BW := bw0 (List.mem_of_getElem? (l := BW0) (i := 678) rfl)
set_option maxRecDepth 100000 in
theorem kw_679 : (.static y_Lw_where : Cond) ∈ BW := bw0 (List.mem_of_getElem? (l := BW0) (i := 679) rfl)
set_option maxRecDepth 100000 in
theorem kw_680 : (.methodLink "PictureFileLaw" 115 y_Md_where : Cond) ∈ BW := bw0 (List.mem_of_getElem? (l := BW0) (i := 680) rfl)
set_option maxRecDepth 100000 in
theorem kw_681 : (.code y_Md_where b_Md_where 4 (some .int) : Cond) ∈ BW := bw0 (List.mem_of_getElem? (l := BW0) (i := 681) rfl)
set_option maxRecDepth 100000 in
theorem kw_682 : (.instanceMethod y_Md_where : Cond) ∈ BW := bw0 (List.mem_of_getElem? (l := BW0) (i := 682) rfl)
set_option maxRecDepth 100000 in
theorem kw_683 : (.selects R_Md y_Md_where y_Md_where : Cond) ∈ BW := bw0 (List.mem_of_getElem? (l := BW0) (i := 683) rfl)
set_option maxRecDepth 100000 in
theorem kw_684 : (.methodLink "PictureFileLaw" 116 y_Lw_dots : Cond) ∈ BW := bw0 (List.mem_of_getElem? (l := BW0) (i := 684) rfl)
set_option maxRecDepth 100000 in
theorem kw_685 : (.static y_Lw_dots : Cond) ∈ BW := bw0 (List.mem_of_getElem? (l := BW0) (i := 685) rfl)
set_option maxRecDepth 100000 in
theorem kw_686 : (.methodLink "PictureFileLaw" 118 y_Md_dots : Cond) ∈ BW := bw0 (List.mem_of_getElem? (l := BW0) (i := 686) rfl)
set_option maxRecDepth 100000 in
theorem kw_687 : (.code y_Md_dots b_Md_dots 5 (some .int) : Cond) ∈ BW := bw0 (List.mem_of_getElem? (l := BW0) (i := 687) rfl)
set_option maxRecDepth 100000 in
theorem kw_688 : (.instanceMethod y_Md_dots : Cond) ∈ BW := bw0 (List.mem_of_getElem? (l := BW0) (i := 688) rfl)
set_option maxRecDepth 100000 in
theorem kw_689 : (.selects R_Md y_Md_dots y_Md_dots : Cond) ∈ BW := bw0 (List.mem_of_getElem? (l := BW0) (i := 689) rfl)
set_option maxRecDepth 100000 in
theorem kw_690 : (.methodLink "PictureFileLaw" 119 y_PF_look : Cond) ∈ BW := bw0 (List.mem_of_getElem? (l := BW0) (i := 690) rfl)
set_option maxRecDepth 100000 in
theorem kw_691 : (.code y_PF_look b_PF_look 2 (some .int) : Cond) ∈ BW := bw0 (List.mem_of_getElem? (l := BW0) (i := 691) rfl)
set_option maxRecDepth 100000 in
theorem kw_692 : (.instanceMethod y_PF_look : Cond) ∈ BW := bw0 (List.mem_of_getElem? (l := BW0) (i := 692) rfl)
set_option maxRecDepth 100000 in
theorem kw_693 : (.selects R_PF y_PF_look y_PF_look : Cond) ∈ BW := bw0 (List.mem_of_getElem? (l := BW0) (i := 693) rfl)
set_option maxRecDepth 100000 in
theorem kw_694 : (.methodLink "PictureFileLaw" 122 y_Md_look : Cond) ∈ BW := bw0 (List.mem_of_getElem? (l := BW0) (i := 694) rfl)
set_option maxRecDepth 100000 in
theorem kw_695 : (.code y_Md_look b_Md_look 2 (some .int) : Cond) ∈ BW := bw0 (List.mem_of_getElem? (l := BW0) (i := 695) rfl)
set_option maxRecDepth 100000 in
theorem kw_696 : (.instanceMethod y_Md_look : Cond) ∈ BW := bw0 (List.mem_of_getElem? (l := BW0) (i := 696) rfl)
set_option maxRecDepth 100000 in
theorem kw_697 : (.selects R_Md y_Md_look y_Md_look : Cond) ∈ BW := bw0 (List.mem_of_getElem? (l := BW0) (i := 697) rfl)
set_option maxRecDepth 100000 in
theorem kw_698 : (.classLink "PictureFileLaw" 8 "PictureFile" : Cond) ∈ BW := bw0 (List.mem_of_getElem? (l := BW0) (i := 698) rfl)
set_option maxRecDepth 100000 in
theorem kw_699 : (.instantiable "PictureFile" 3 : Cond) ∈ BW := bw0 (List.mem_of_getElem? (l := BW0) (i := 699) rfl)
set_option maxRecDepth 100000 in
theorem kw_700 : (.methodLink "PictureFileLaw" 47 y_PF_init : Cond) ∈ BW := bw0 (List.mem_of_getElem? (l := BW0) (i := 700) rfl)
set_option maxRecDepth 100000 in
theorem kw_701 : (.code y_PF_init b_PF_init 2 none : Cond) ∈ BW := bw0 (List.mem_of_getElem? (l := BW0) (i := 701) rfl)
set_option maxRecDepth 100000 in
theorem kw_702 : (.instanceMethod y_PF_init : Cond) ∈ BW := bw0 (List.mem_of_getElem? (l := BW0) (i := 702) rfl)
set_option maxRecDepth 100000 in
theorem kw_703 : (.classLink "PictureFileLaw" 48 "PictureFileModel" : Cond) ∈ BW := bw0 (List.mem_of_getElem? (l := BW0) (i := 703) rfl)
set_option maxRecDepth 100000 in
theorem kw_704 : (.instantiable "PictureFileModel" 30 : Cond) ∈ BW := bw0 (List.mem_of_getElem? (l := BW0) (i := 704) rfl)
set_option maxRecDepth 100000 in
theorem kw_705 : (.methodLink "PictureFileLaw" 50 y_Md_init : Cond) ∈ BW := bw0 (List.mem_of_getElem? (l := BW0) (i := 705) rfl)
set_option maxRecDepth 100000 in
theorem kw_706 : (.code y_Md_init b_Md_init 1 none : Cond) ∈ BW := bw0 (List.mem_of_getElem? (l := BW0) (i := 706) rfl)
set_option maxRecDepth 100000 in
theorem kw_707 : (.instanceMethod y_Md_init : Cond) ∈ BW := bw0 (List.mem_of_getElem? (l := BW0) (i := 707) rfl)
set_option maxRecDepth 100000 in
theorem kw_708 : (.lays "PictureFile$Row" "PictureFile$Row" "cells" "[B" : Cond) ∈ BW := bw0 (List.mem_of_getElem? (l := BW0) (i := 708) rfl)
set_option maxRecDepth 100000 in
theorem kw_709 : (.lays "PictureFile$Row" "PictureFile$Row" "size" "I" : Cond) ∈ BW := bw0 (List.mem_of_getElem? (l := BW0) (i := 709) rfl)
set_option maxRecDepth 100000 in
theorem kw_710 : (.laysFinal "PictureFile$Strips" "PictureFile$Strips" "most" "I" : Cond) ∈ BW := bw0 (List.mem_of_getElem? (l := BW0) (i := 710) rfl)
set_option maxRecDepth 100000 in
theorem kw_711 : (.lays "PictureFile$Strips" "PictureFile$Strips" "cells" "[I" : Cond) ∈ BW := bw0 (List.mem_of_getElem? (l := BW0) (i := 711) rfl)
set_option maxRecDepth 100000 in
theorem kw_712 : (.lays "PictureFile$Strips" "PictureFile$Strips" "count" "I" : Cond) ∈ BW := bw0 (List.mem_of_getElem? (l := BW0) (i := 712) rfl)
set_option maxRecDepth 100000 in
theorem kw_713 : (.laysFinal "PictureFile$Maker" "PictureFile$Maker" "file" "LPictureFile$Row;" : Cond) ∈ BW := bw0 (List.mem_of_getElem? (l := BW0) (i := 713) rfl)
set_option maxRecDepth 100000 in
theorem kw_714 : (.laysFinal "PictureFile$Maker" "PictureFile$Maker" "strips" "LPictureFile$Strips;" : Cond) ∈ BW := bw0 (List.mem_of_getElem? (l := BW0) (i := 714) rfl)
set_option maxRecDepth 100000 in
theorem kw_715 : (.lays "PictureFile$Maker" "PictureFile$Maker" "making" "Z" : Cond) ∈ BW := bw0 (List.mem_of_getElem? (l := BW0) (i := 715) rfl)
set_option maxRecDepth 100000 in
theorem kw_716 : (.lays "PictureFile$Maker" "PictureFile$Maker" "onPage" "Z" : Cond) ∈ BW := bw0 (List.mem_of_getElem? (l := BW0) (i := 716) rfl)
set_option maxRecDepth 100000 in
theorem kw_717 : (.lays "PictureFile$Maker" "PictureFile$Maker" "order" "I" : Cond) ∈ BW := bw0 (List.mem_of_getElem? (l := BW0) (i := 717) rfl)
set_option maxRecDepth 100000 in
theorem kw_718 : (.lays "PictureFile$Maker" "PictureFile$Maker" "pages" "I" : Cond) ∈ BW := bw0 (List.mem_of_getElem? (l := BW0) (i := 718) rfl)
set_option maxRecDepth 100000 in
theorem kw_719 : (.lays "PictureFile$Maker" "PictureFile$Maker" "link" "I" : Cond) ∈ BW := bw0 (List.mem_of_getElem? (l := BW0) (i := 719) rfl)
set_option maxRecDepth 100000 in
theorem kw_720 : (.lays "PictureFile$Maker" "PictureFile$Maker" "width" "I" : Cond) ∈ BW := bw0 (List.mem_of_getElem? (l := BW0) (i := 720) rfl)
set_option maxRecDepth 100000 in
theorem kw_721 : (.lays "PictureFile$Maker" "PictureFile$Maker" "height" "I" : Cond) ∈ BW := bw0 (List.mem_of_getElem? (l := BW0) (i := 721) rfl)
set_option maxRecDepth 100000 in
theorem kw_722 : (.lays "PictureFile$Maker" "PictureFile$Maker" "rows" "I" : Cond) ∈ BW := bw0 (List.mem_of_getElem? (l := BW0) (i := 722) rfl)
set_option maxRecDepth 100000 in
theorem kw_723 : (.lays "PictureFile$Maker" "PictureFile$Maker" "across" "I" : Cond) ∈ BW := bw0 (List.mem_of_getElem? (l := BW0) (i := 723) rfl)
set_option maxRecDepth 100000 in
theorem kw_724 : (.lays "PictureFile$Maker" "PictureFile$Maker" "down" "I" : Cond) ∈ BW := bw0 (List.mem_of_getElem? (l := BW0) (i := 724) rfl)
set_option maxRecDepth 100000 in
theorem kw_725 : (.lays "PictureFile$Maker" "PictureFile$Maker" "stripsDue" "I" : Cond) ∈ BW := bw0 (List.mem_of_getElem? (l := BW0) (i := 725) rfl)
set_option maxRecDepth 100000 in
theorem kw_726 : (.lays "PictureFile$Maker" "PictureFile$Maker" "stripBytes" "I" : Cond) ∈ BW := bw0 (List.mem_of_getElem? (l := BW0) (i := 726) rfl)
set_option maxRecDepth 100000 in
theorem kw_727 : (.laysFinal "PictureFile$PageNumbers" "PictureFile$PageNumbers" "cells" "[J" : Cond) ∈ BW := bw0 (List.mem_of_getElem? (l := BW0) (i := 727) rfl)
set_option maxRecDepth 100000 in
theorem kw_728 : (.laysFinal "PictureFile$Entries" "PictureFile$Entries" "file" "LPictureFile$Row;" : Cond) ∈ BW := bw0 (List.mem_of_getElem? (l := BW0) (i := 728) rfl)
set_option maxRecDepth 100000 in
theorem kw_729 : (.laysFinal "PictureFile$Entries" "PictureFile$Entries" "types" "[I" : Cond) ∈ BW := bw0 (List.mem_of_getElem? (l := BW0) (i := 729) rfl)
set_option maxRecDepth 100000 in
theorem kw_730 : (.laysFinal "PictureFile$Entries" "PictureFile$Entries" "counts" "[I" : Cond) ∈ BW := bw0 (List.mem_of_getElem? (l := BW0) (i := 730) rfl)
set_option maxRecDepth 100000 in
theorem kw_731 : (.laysFinal "PictureFile$Entries" "PictureFile$Entries" "places" "[I" : Cond) ∈ BW := bw0 (List.mem_of_getElem? (l := BW0) (i := 731) rfl)
set_option maxRecDepth 100000 in
theorem kw_732 : (.laysFinal "PictureFile$Reader" "PictureFile$Reader" "file" "LPictureFile$Row;" : Cond) ∈ BW := bw0 (List.mem_of_getElem? (l := BW0) (i := 732) rfl)
set_option maxRecDepth 100000 in
theorem kw_733 : (.laysFinal "PictureFile$Reader" "PictureFile$Reader" "entries" "LPictureFile$Entries;" : Cond) ∈ BW := bw0 (List.mem_of_getElem? (l := BW0) (i := 733) rfl)
set_option maxRecDepth 100000 in
theorem kw_734 : (.laysFinal "PictureFile$Reader" "PictureFile$Reader" "numbers" "LPictureFile$PageNumbers;" : Cond) ∈ BW := bw0 (List.mem_of_getElem? (l := BW0) (i := 734) rfl)
set_option maxRecDepth 100000 in
theorem kw_735 : (.laysFinal "PictureFile$Reader" "PictureFile$Reader" "strips" "LPictureFile$Strips;" : Cond) ∈ BW := bw0 (List.mem_of_getElem? (l := BW0) (i := 735) rfl)
set_option maxRecDepth 100000 in
theorem kw_736 : (.laysFinal "PictureFile$Reader" "PictureFile$Reader" "firstStrips" "[I" : Cond) ∈ BW := bw0 (List.mem_of_getElem? (l := BW0) (i := 736) rfl)
set_option maxRecDepth 100000 in
theorem kw_737 : (.lays "PictureFile$Reader" "PictureFile$Reader" "pages" "I" : Cond) ∈ BW := bw0 (List.mem_of_getElem? (l := BW0) (i := 737) rfl)
set_option maxRecDepth 100000 in
theorem kw_738 : (.lays "PictureFile$Reader" "PictureFile$Reader" "order" "I" : Cond) ∈ BW := bw0 (List.mem_of_getElem? (l := BW0) (i := 738) rfl)
set_option maxRecDepth 100000 in
theorem kw_739 : (.lays "PictureFile$Reader" "PictureFile$Reader" "current" "I" : Cond) ∈ BW := bw0 (List.mem_of_getElem? (l := BW0) (i := 739) rfl)
set_option maxRecDepth 100000 in
theorem kw_740 : (.lays "PictureFile$Reader" "PictureFile$Reader" "faultKind" "I" : Cond) ∈ BW := bw0 (List.mem_of_getElem? (l := BW0) (i := 740) rfl)
set_option maxRecDepth 100000 in
theorem kw_741 : (.lays "PictureFile$Reader" "PictureFile$Reader" "faultPage" "I" : Cond) ∈ BW := bw0 (List.mem_of_getElem? (l := BW0) (i := 741) rfl)
set_option maxRecDepth 100000 in
theorem kw_742 : (.lays "PictureFile$Reader" "PictureFile$Reader" "faultTag" "I" : Cond) ∈ BW := bw0 (List.mem_of_getElem? (l := BW0) (i := 742) rfl)
set_option maxRecDepth 100000 in
theorem kw_743 : (.lays "PictureFile$Reader" "PictureFile$Reader" "faultStrip" "I" : Cond) ∈ BW := bw0 (List.mem_of_getElem? (l := BW0) (i := 743) rfl)
set_option maxRecDepth 100000 in
theorem kw_744 : (.laysFinal "PictureFile" "PictureFile" "file" "LPictureFile$Row;" : Cond) ∈ BW := bw0 (List.mem_of_getElem? (l := BW0) (i := 744) rfl)
set_option maxRecDepth 100000 in
theorem kw_745 : (.laysFinal "PictureFile" "PictureFile" "maker" "LPictureFile$Maker;" : Cond) ∈ BW := bw0 (List.mem_of_getElem? (l := BW0) (i := 745) rfl)
set_option maxRecDepth 100000 in
theorem kw_746 : (.laysFinal "PictureFile" "PictureFile" "reader" "LPictureFile$Reader;" : Cond) ∈ BW := bw0 (List.mem_of_getElem? (l := BW0) (i := 746) rfl)
set_option maxRecDepth 100000 in
theorem kw_747 : (.lays "PictureFileModel" "PictureFileModel" "thrown" "I" : Cond) ∈ BW := bw0 (List.mem_of_getElem? (l := BW0) (i := 747) rfl)
set_option maxRecDepth 100000 in
theorem kw_748 : (.laysFinal "PictureFileModel" "PictureFileModel" "file" "[B" : Cond) ∈ BW := bw0 (List.mem_of_getElem? (l := BW0) (i := 748) rfl)
set_option maxRecDepth 100000 in
theorem kw_749 : (.lays "PictureFileModel" "PictureFileModel" "size" "I" : Cond) ∈ BW := bw0 (List.mem_of_getElem? (l := BW0) (i := 749) rfl)
set_option maxRecDepth 100000 in
theorem kw_750 : (.lays "PictureFileModel" "PictureFileModel" "making" "Z" : Cond) ∈ BW := bw0 (List.mem_of_getElem? (l := BW0) (i := 750) rfl)
set_option maxRecDepth 100000 in
theorem kw_751 : (.lays "PictureFileModel" "PictureFileModel" "open" "Z" : Cond) ∈ BW := bw0 (List.mem_of_getElem? (l := BW0) (i := 751) rfl)
set_option maxRecDepth 100000 in
theorem kw_752 : (.lays "PictureFileModel" "PictureFileModel" "order" "I" : Cond) ∈ BW := bw0 (List.mem_of_getElem? (l := BW0) (i := 752) rfl)
set_option maxRecDepth 100000 in
theorem kw_753 : (.lays "PictureFileModel" "PictureFileModel" "made" "I" : Cond) ∈ BW := bw0 (List.mem_of_getElem? (l := BW0) (i := 753) rfl)
set_option maxRecDepth 100000 in
theorem kw_754 : (.lays "PictureFileModel" "PictureFileModel" "link" "I" : Cond) ∈ BW := bw0 (List.mem_of_getElem? (l := BW0) (i := 754) rfl)
set_option maxRecDepth 100000 in
theorem kw_755 : (.lays "PictureFileModel" "PictureFileModel" "width" "I" : Cond) ∈ BW := bw0 (List.mem_of_getElem? (l := BW0) (i := 755) rfl)
set_option maxRecDepth 100000 in
theorem kw_756 : (.lays "PictureFileModel" "PictureFileModel" "height" "I" : Cond) ∈ BW := bw0 (List.mem_of_getElem? (l := BW0) (i := 756) rfl)
set_option maxRecDepth 100000 in
theorem kw_757 : (.lays "PictureFileModel" "PictureFileModel" "rows" "I" : Cond) ∈ BW := bw0 (List.mem_of_getElem? (l := BW0) (i := 757) rfl)
set_option maxRecDepth 100000 in
theorem kw_758 : (.lays "PictureFileModel" "PictureFileModel" "across" "I" : Cond) ∈ BW := bw0 (List.mem_of_getElem? (l := BW0) (i := 758) rfl)
set_option maxRecDepth 100000 in
theorem kw_759 : (.lays "PictureFileModel" "PictureFileModel" "down" "I" : Cond) ∈ BW := bw0 (List.mem_of_getElem? (l := BW0) (i := 759) rfl)
set_option maxRecDepth 100000 in
theorem kw_760 : (.lays "PictureFileModel" "PictureFileModel" "strips" "I" : Cond) ∈ BW := bw0 (List.mem_of_getElem? (l := BW0) (i := 760) rfl)
set_option maxRecDepth 100000 in
theorem kw_761 : (.lays "PictureFileModel" "PictureFileModel" "done" "I" : Cond) ∈ BW := bw0 (List.mem_of_getElem? (l := BW0) (i := 761) rfl)
set_option maxRecDepth 100000 in
theorem kw_762 : (.lays "PictureFileModel" "PictureFileModel" "from" "I" : Cond) ∈ BW := bw0 (List.mem_of_getElem? (l := BW0) (i := 762) rfl)
set_option maxRecDepth 100000 in
theorem kw_763 : (.lays "PictureFileModel" "PictureFileModel" "length" "I" : Cond) ∈ BW := bw0 (List.mem_of_getElem? (l := BW0) (i := 763) rfl)
set_option maxRecDepth 100000 in
theorem kw_764 : (.laysFinal "PictureFileModel" "PictureFileModel" "places" "[I" : Cond) ∈ BW := bw0 (List.mem_of_getElem? (l := BW0) (i := 764) rfl)
set_option maxRecDepth 100000 in
theorem kw_765 : (.laysFinal "PictureFileModel" "PictureFileModel" "lengths" "[I" : Cond) ∈ BW := bw0 (List.mem_of_getElem? (l := BW0) (i := 765) rfl)
set_option maxRecDepth 100000 in
theorem kw_766 : (.lays "PictureFileModel" "PictureFileModel" "wasOrder" "I" : Cond) ∈ BW := bw0 (List.mem_of_getElem? (l := BW0) (i := 766) rfl)
set_option maxRecDepth 100000 in
theorem kw_767 : (.lays "PictureFileModel" "PictureFileModel" "pages" "I" : Cond) ∈ BW := bw0 (List.mem_of_getElem? (l := BW0) (i := 767) rfl)
set_option maxRecDepth 100000 in
theorem kw_768 : (.laysFinal "PictureFileModel" "PictureFileModel" "numbers" "[J" : Cond) ∈ BW := bw0 (List.mem_of_getElem? (l := BW0) (i := 768) rfl)
set_option maxRecDepth 100000 in
theorem kw_769 : (.laysFinal "PictureFileModel" "PictureFileModel" "firstStrip" "[I" : Cond) ∈ BW := bw0 (List.mem_of_getElem? (l := BW0) (i := 769) rfl)
set_option maxRecDepth 100000 in
theorem kw_770 : (.laysFinal "PictureFileModel" "PictureFileModel" "stripPlace" "[I" : Cond) ∈ BW := bw0 (List.mem_of_getElem? (l := BW0) (i := 770) rfl)
set_option maxRecDepth 100000 in
theorem kw_771 : (.laysFinal "PictureFileModel" "PictureFileModel" "stripLength" "[I" : Cond) ∈ BW := bw0 (List.mem_of_getElem? (l := BW0) (i := 771) rfl)
set_option maxRecDepth 100000 in
theorem kw_772 : (.lays "PictureFileModel" "PictureFileModel" "fault" "I" : Cond) ∈ BW := bw0 (List.mem_of_getElem? (l := BW0) (i := 772) rfl)
set_option maxRecDepth 100000 in
theorem kw_773 : (.lays "PictureFileModel" "PictureFileModel" "faultPage" "I" : Cond) ∈ BW := bw0 (List.mem_of_getElem? (l := BW0) (i := 773) rfl)
set_option maxRecDepth 100000 in
theorem kw_774 : (.lays "PictureFileModel" "PictureFileModel" "faultTag" "I" : Cond) ∈ BW := bw0 (List.mem_of_getElem? (l := BW0) (i := 774) rfl)
set_option maxRecDepth 100000 in
theorem kw_775 : (.lays "PictureFileModel" "PictureFileModel" "faultStrip" "I" : Cond) ∈ BW := bw0 (List.mem_of_getElem? (l := BW0) (i := 775) rfl)
set_option maxRecDepth 100000 in
theorem kw_776 : (.laysFinal "PictureFileModel" "PictureFileModel" "entry" "[I" : Cond) ∈ BW := bw0 (List.mem_of_getElem? (l := BW0) (i := 776) rfl)
set_option maxRecDepth 100000 in
theorem kw_777 : (.methodLink "java/util/Arrays" 304 Lib.Math.min.name : Cond) ∈ BW := bw0 (List.mem_of_getElem? (l := BW0) (i := 777) rfl)
set_option maxRecDepth 100000 in
theorem kw_778 : (.methodLink "java/util/Arrays" 150 arraycopyName : Cond) ∈ BW := bw0 (List.mem_of_getElem? (l := BW0) (i := 778) rfl)
set_option maxRecDepth 100000 in
theorem kw_779 : (.native arraycopyName : Cond) ∈ BW := bw0 (List.mem_of_getElem? (l := BW0) (i := 779) rfl)
set_option maxRecDepth 100000 in
theorem kw_780 : (.static arraycopyName : Cond) ∈ BW := bw0 (List.mem_of_getElem? (l := BW0) (i := 780) rfl)
set_option maxRecDepth 100000 in
theorem kw_781 : (.initialized "java/lang/System" : Cond) ∈ BW := bw0 (List.mem_of_getElem? (l := BW0) (i := 781) rfl)
theorem in_IAE : ∀ w ∈ AT_IAE, isR w = false → w ∈ BW := by intro w h1 h2; simp only [BW, List.mem_append]; have h3 : w ∈ AT_IAE.filter (fun w => !isR w) := List.mem_filter.mpr ⟨h1, by rw [h2]; rfl⟩; simp only [h3, true_or, or_true]
theorem rf_IAE : ∀ w ∈ AT_IAE, isR w = true → w ∈ XW := by decide +kernel
theorem at_IAE {U : State} {A : Array Value} (h : Wd BW U) (hX : SX TS U) : ∀ w ∈ AT_IAE, w.before A U = true := by
  intro w hw
  cases hr : isR w with
  | false => exact Wd.at bw_ok h (in_IAE w hw hr)
  | true => exact hX.use (rf_IAE w hw hr)
theorem in_ISE : ∀ w ∈ AT_ISE, isR w = false → w ∈ BW := by intro w h1 h2; simp only [BW, List.mem_append]; have h3 : w ∈ AT_ISE.filter (fun w => !isR w) := List.mem_filter.mpr ⟨h1, by rw [h2]; rfl⟩; simp only [h3, true_or, or_true]
theorem rf_ISE : ∀ w ∈ AT_ISE, isR w = true → w ∈ XW := by decide +kernel
theorem at_ISE {U : State} {A : Array Value} (h : Wd BW U) (hX : SX TS U) : ∀ w ∈ AT_ISE, w.before A U = true := by
  intro w hw
  cases hr : isR w with
  | false => exact Wd.at bw_ok h (in_ISE w hw hr)
  | true => exact hX.use (rf_ISE w hw hr)
theorem in_IOE : ∀ w ∈ AT_IOE, isR w = false → w ∈ BW := by intro w h1 h2; simp only [BW, List.mem_append]; have h3 : w ∈ AT_IOE.filter (fun w => !isR w) := List.mem_filter.mpr ⟨h1, by rw [h2]; rfl⟩; simp only [h3, true_or, or_true]
theorem rf_IOE : ∀ w ∈ AT_IOE, isR w = true → w ∈ XW := by decide +kernel
theorem at_IOE {U : State} {A : Array Value} (h : Wd BW U) (hX : SX TS U) : ∀ w ∈ AT_IOE, w.before A U = true := by
  intro w hw
  cases hr : isR w with
  | false => exact Wd.at bw_ok h (in_IOE w hw hr)
  | true => exact hX.use (rf_IOE w hw hr)
theorem in_Row : ∀ w ∈ u_ws R_Row F_Row 2, w ∈ BW := by intro w hw; exact bw0 (in0_Row w hw)
theorem kl_Row {U : State} {A : Array Value} (h : Wd BW U) : ∀ w ∈ u_ws R_Row F_Row 2, w.before A U = true := fun w hw => Wd.at bw_ok h (in_Row w hw)
theorem in_St : ∀ w ∈ u_ws R_St F_St 3, w ∈ BW := by intro w hw; exact bw0 (in0_St w hw)
theorem kl_St {U : State} {A : Array Value} (h : Wd BW U) : ∀ w ∈ u_ws R_St F_St 3, w.before A U = true := fun w hw => Wd.at bw_ok h (in_St w hw)
theorem in_Mk : ∀ w ∈ u_ws R_Mk F_Mk 14, w ∈ BW := by intro w hw; exact bw0 (in0_Mk w hw)
theorem kl_Mk {U : State} {A : Array Value} (h : Wd BW U) : ∀ w ∈ u_ws R_Mk F_Mk 14, w.before A U = true := fun w hw => Wd.at bw_ok h (in_Mk w hw)
theorem in_Pn : ∀ w ∈ u_ws R_Pn F_Pn 1, w ∈ BW := by intro w hw; exact bw0 (in0_Pn w hw)
theorem kl_Pn {U : State} {A : Array Value} (h : Wd BW U) : ∀ w ∈ u_ws R_Pn F_Pn 1, w.before A U = true := fun w hw => Wd.at bw_ok h (in_Pn w hw)
theorem in_En : ∀ w ∈ u_ws R_En F_En 4, w ∈ BW := by intro w hw; exact bw0 (in0_En w hw)
theorem kl_En {U : State} {A : Array Value} (h : Wd BW U) : ∀ w ∈ u_ws R_En F_En 4, w.before A U = true := fun w hw => Wd.at bw_ok h (in_En w hw)
theorem in_Rd : ∀ w ∈ u_ws R_Rd F_Rd 12, w ∈ BW := by intro w hw; exact bw0 (in0_Rd w hw)
theorem kl_Rd {U : State} {A : Array Value} (h : Wd BW U) : ∀ w ∈ u_ws R_Rd F_Rd 12, w.before A U = true := fun w hw => Wd.at bw_ok h (in_Rd w hw)
theorem in_PF : ∀ w ∈ u_ws R_PF F_PF 3, w ∈ BW := by intro w hw; exact bw0 (in0_PF w hw)
theorem kl_PF {U : State} {A : Array Value} (h : Wd BW U) : ∀ w ∈ u_ws R_PF F_PF 3, w.before A U = true := fun w hw => Wd.at bw_ok h (in_PF w hw)
theorem in_Md : ∀ w ∈ u_ws R_Md F_Md 30, w ∈ BW := by intro w hw; exact bw0 (in0_Md w hw)
theorem kl_Md {U : State} {A : Array Value} (h : Wd BW U) : ∀ w ∈ u_ws R_Md F_Md 30, w.before A U = true := fun w hw => Wd.at bw_ok h (in_Md w hw)
theorem cal_PF_isWithin : y_PF_isWithin.cls ≠ "java/lang/invoke/MethodHandle" ∧ y_PF_isWithin.cls ≠ "java/lang/invoke/VarHandle" ∧ (parseMethodDescriptor y_PF_isWithin.desc).map (fun d => d.parameters.length) = some 3 := by decide +kernel
theorem cal_PF_isPartLength : y_PF_isPartLength.cls ≠ "java/lang/invoke/MethodHandle" ∧ y_PF_isPartLength.cls ≠ "java/lang/invoke/VarHandle" ∧ (parseMethodDescriptor y_PF_isPartLength.desc).map (fun d => d.parameters.length) = some 1 := by decide +kernel
theorem cal_PF_isOrder : y_PF_isOrder.cls ≠ "java/lang/invoke/MethodHandle" ∧ y_PF_isOrder.cls ≠ "java/lang/invoke/VarHandle" ∧ (parseMethodDescriptor y_PF_isOrder.desc).map (fun d => d.parameters.length) = some 1 := by decide +kernel
theorem cal_PF_isFineness : y_PF_isFineness.cls ≠ "java/lang/invoke/MethodHandle" ∧ y_PF_isFineness.cls ≠ "java/lang/invoke/VarHandle" ∧ (parseMethodDescriptor y_PF_isFineness.desc).map (fun d => d.parameters.length) = some 1 := by decide +kernel
theorem cal_PF_stripsOf : y_PF_stripsOf.cls ≠ "java/lang/invoke/MethodHandle" ∧ y_PF_stripsOf.cls ≠ "java/lang/invoke/VarHandle" ∧ (parseMethodDescriptor y_PF_stripsOf.desc).map (fun d => d.parameters.length) = some 2 := by decide +kernel
theorem cal_PF_isSheet : y_PF_isSheet.cls ≠ "java/lang/invoke/MethodHandle" ∧ y_PF_isSheet.cls ≠ "java/lang/invoke/VarHandle" ∧ (parseMethodDescriptor y_PF_isSheet.desc).map (fun d => d.parameters.length) = some 3 := by decide +kernel
theorem cal_Row_at : y_Row_at.cls ≠ "java/lang/invoke/MethodHandle" ∧ y_Row_at.cls ≠ "java/lang/invoke/VarHandle" ∧ (parseMethodDescriptor y_Row_at.desc).map (fun d => d.parameters.length) = some 1 := by decide +kernel
theorem cal_Row_shiftOf : y_Row_shiftOf.cls ≠ "java/lang/invoke/MethodHandle" ∧ y_Row_shiftOf.cls ≠ "java/lang/invoke/VarHandle" ∧ (parseMethodDescriptor y_Row_shiftOf.desc).map (fun d => d.parameters.length) = some 3 := by decide +kernel
theorem cal_Row_replace : y_Row_replace.cls ≠ "java/lang/invoke/MethodHandle" ∧ y_Row_replace.cls ≠ "java/lang/invoke/VarHandle" ∧ (parseMethodDescriptor y_Row_replace.desc).map (fun d => d.parameters.length) = some 2 := by decide +kernel
theorem cal_Row_add : y_Row_add.cls ≠ "java/lang/invoke/MethodHandle" ∧ y_Row_add.cls ≠ "java/lang/invoke/VarHandle" ∧ (parseMethodDescriptor y_Row_add.desc).map (fun d => d.parameters.length) = some 1 := by decide +kernel
theorem cal_Row_number : y_Row_number.cls ≠ "java/lang/invoke/MethodHandle" ∧ y_Row_number.cls ≠ "java/lang/invoke/VarHandle" ∧ (parseMethodDescriptor y_Row_number.desc).map (fun d => d.parameters.length) = some 3 := by decide +kernel
theorem cal_Row_append : y_Row_append.cls ≠ "java/lang/invoke/MethodHandle" ∧ y_Row_append.cls ≠ "java/lang/invoke/VarHandle" ∧ (parseMethodDescriptor y_Row_append.desc).map (fun d => d.parameters.length) = some 3 := by decide +kernel
theorem cal_Row_replaceLong : y_Row_replaceLong.cls ≠ "java/lang/invoke/MethodHandle" ∧ y_Row_replaceLong.cls ≠ "java/lang/invoke/VarHandle" ∧ (parseMethodDescriptor y_Row_replaceLong.desc).map (fun d => d.parameters.length) = some 3 := by decide +kernel
theorem cal_Row_makeEven : y_Row_makeEven.cls ≠ "java/lang/invoke/MethodHandle" ∧ y_Row_makeEven.cls ≠ "java/lang/invoke/VarHandle" ∧ (parseMethodDescriptor y_Row_makeEven.desc).map (fun d => d.parameters.length) = some 0 := by decide +kernel
theorem cal_St_get : y_St_get.cls ≠ "java/lang/invoke/MethodHandle" ∧ y_St_get.cls ≠ "java/lang/invoke/VarHandle" ∧ (parseMethodDescriptor y_St_get.desc).map (fun d => d.parameters.length) = some 2 := by decide +kernel
theorem cal_St_add : y_St_add.cls ≠ "java/lang/invoke/MethodHandle" ∧ y_St_add.cls ≠ "java/lang/invoke/VarHandle" ∧ (parseMethodDescriptor y_St_add.desc).map (fun d => d.parameters.length) = some 2 := by decide +kernel
theorem cal_Mk_addShort : y_Mk_addShort.cls ≠ "java/lang/invoke/MethodHandle" ∧ y_Mk_addShort.cls ≠ "java/lang/invoke/VarHandle" ∧ (parseMethodDescriptor y_Mk_addShort.desc).map (fun d => d.parameters.length) = some 1 := by decide +kernel
theorem cal_Mk_addLong : y_Mk_addLong.cls ≠ "java/lang/invoke/MethodHandle" ∧ y_Mk_addLong.cls ≠ "java/lang/invoke/VarHandle" ∧ (parseMethodDescriptor y_Mk_addLong.desc).map (fun d => d.parameters.length) = some 1 := by decide +kernel
theorem cal_Mk_leavePage : y_Mk_leavePage.cls ≠ "java/lang/invoke/MethodHandle" ∧ y_Mk_leavePage.cls ≠ "java/lang/invoke/VarHandle" ∧ (parseMethodDescriptor y_Mk_leavePage.desc).map (fun d => d.parameters.length) = some 0 := by decide +kernel
theorem cal_Mk_startFile : y_Mk_startFile.cls ≠ "java/lang/invoke/MethodHandle" ∧ y_Mk_startFile.cls ≠ "java/lang/invoke/VarHandle" ∧ (parseMethodDescriptor y_Mk_startFile.desc).map (fun d => d.parameters.length) = some 1 := by decide +kernel
theorem cal_Mk_startPage : y_Mk_startPage.cls ≠ "java/lang/invoke/MethodHandle" ∧ y_Mk_startPage.cls ≠ "java/lang/invoke/VarHandle" ∧ (parseMethodDescriptor y_Mk_startPage.desc).map (fun d => d.parameters.length) = some 5 := by decide +kernel
theorem cal_Mk_stripsToCome : y_Mk_stripsToCome.cls ≠ "java/lang/invoke/MethodHandle" ∧ y_Mk_stripsToCome.cls ≠ "java/lang/invoke/VarHandle" ∧ (parseMethodDescriptor y_Mk_stripsToCome.desc).map (fun d => d.parameters.length) = some 0 := by decide +kernel
theorem cal_Mk_hasRoomFor : y_Mk_hasRoomFor.cls ≠ "java/lang/invoke/MethodHandle" ∧ y_Mk_hasRoomFor.cls ≠ "java/lang/invoke/VarHandle" ∧ (parseMethodDescriptor y_Mk_hasRoomFor.desc).map (fun d => d.parameters.length) = some 1 := by decide +kernel
theorem cal_Mk_addToStrip : y_Mk_addToStrip.cls ≠ "java/lang/invoke/MethodHandle" ∧ y_Mk_addToStrip.cls ≠ "java/lang/invoke/VarHandle" ∧ (parseMethodDescriptor y_Mk_addToStrip.desc).map (fun d => d.parameters.length) = some 2 := by decide +kernel
theorem cal_Mk_finishStrip : y_Mk_finishStrip.cls ≠ "java/lang/invoke/MethodHandle" ∧ y_Mk_finishStrip.cls ≠ "java/lang/invoke/VarHandle" ∧ (parseMethodDescriptor y_Mk_finishStrip.desc).map (fun d => d.parameters.length) = some 0 := by decide +kernel
theorem cal_Mk_hasLists : y_Mk_hasLists.cls ≠ "java/lang/invoke/MethodHandle" ∧ y_Mk_hasLists.cls ≠ "java/lang/invoke/VarHandle" ∧ (parseMethodDescriptor y_Mk_hasLists.desc).map (fun d => d.parameters.length) = some 0 := by decide +kernel
theorem cal_Mk_sizeWithPage : y_Mk_sizeWithPage.cls ≠ "java/lang/invoke/MethodHandle" ∧ y_Mk_sizeWithPage.cls ≠ "java/lang/invoke/VarHandle" ∧ (parseMethodDescriptor y_Mk_sizeWithPage.desc).map (fun d => d.parameters.length) = some 0 := by decide +kernel
theorem cal_Mk_addList : y_Mk_addList.cls ≠ "java/lang/invoke/MethodHandle" ∧ y_Mk_addList.cls ≠ "java/lang/invoke/VarHandle" ∧ (parseMethodDescriptor y_Mk_addList.desc).map (fun d => d.parameters.length) = some 1 := by decide +kernel
theorem cal_Mk_addFineness : y_Mk_addFineness.cls ≠ "java/lang/invoke/MethodHandle" ∧ y_Mk_addFineness.cls ≠ "java/lang/invoke/VarHandle" ∧ (parseMethodDescriptor y_Mk_addFineness.desc).map (fun d => d.parameters.length) = some 1 := by decide +kernel
theorem cal_Mk_addEntry : y_Mk_addEntry.cls ≠ "java/lang/invoke/MethodHandle" ∧ y_Mk_addEntry.cls ≠ "java/lang/invoke/VarHandle" ∧ (parseMethodDescriptor y_Mk_addEntry.desc).map (fun d => d.parameters.length) = some 4 := by decide +kernel
theorem cal_Mk_addDirectory : y_Mk_addDirectory.cls ≠ "java/lang/invoke/MethodHandle" ∧ y_Mk_addDirectory.cls ≠ "java/lang/invoke/VarHandle" ∧ (parseMethodDescriptor y_Mk_addDirectory.desc).map (fun d => d.parameters.length) = some 2 := by decide +kernel
theorem cal_Mk_finishPage : y_Mk_finishPage.cls ≠ "java/lang/invoke/MethodHandle" ∧ y_Mk_finishPage.cls ≠ "java/lang/invoke/VarHandle" ∧ (parseMethodDescriptor y_Mk_finishPage.desc).map (fun d => d.parameters.length) = some 0 := by decide +kernel
theorem cal_Pn_get : y_Pn_get.cls ≠ "java/lang/invoke/MethodHandle" ∧ y_Pn_get.cls ≠ "java/lang/invoke/VarHandle" ∧ (parseMethodDescriptor y_Pn_get.desc).map (fun d => d.parameters.length) = some 2 := by decide +kernel
theorem cal_Pn_set : y_Pn_set.cls ≠ "java/lang/invoke/MethodHandle" ∧ y_Pn_set.cls ≠ "java/lang/invoke/VarHandle" ∧ (parseMethodDescriptor y_Pn_set.desc).map (fun d => d.parameters.length) = some 3 := by decide +kernel
theorem cal_Pn_wrongTag : y_Pn_wrongTag.cls ≠ "java/lang/invoke/MethodHandle" ∧ y_Pn_wrongTag.cls ≠ "java/lang/invoke/VarHandle" ∧ (parseMethodDescriptor y_Pn_wrongTag.desc).map (fun d => d.parameters.length) = some 1 := by decide +kernel
theorem cal_En_forgetAll : y_En_forgetAll.cls ≠ "java/lang/invoke/MethodHandle" ∧ y_En_forgetAll.cls ≠ "java/lang/invoke/VarHandle" ∧ (parseMethodDescriptor y_En_forgetAll.desc).map (fun d => d.parameters.length) = some 0 := by decide +kernel
theorem cal_En_widestType : y_En_widestType.cls ≠ "java/lang/invoke/MethodHandle" ∧ y_En_widestType.cls ≠ "java/lang/invoke/VarHandle" ∧ (parseMethodDescriptor y_En_widestType.desc).map (fun d => d.parameters.length) = some 1 := by decide +kernel
theorem cal_En_canHaveType : y_En_canHaveType.cls ≠ "java/lang/invoke/MethodHandle" ∧ y_En_canHaveType.cls ≠ "java/lang/invoke/VarHandle" ∧ (parseMethodDescriptor y_En_canHaveType.desc).map (fun d => d.parameters.length) = some 2 := by decide +kernel
theorem cal_En_canHaveCount : y_En_canHaveCount.cls ≠ "java/lang/invoke/MethodHandle" ∧ y_En_canHaveCount.cls ≠ "java/lang/invoke/VarHandle" ∧ (parseMethodDescriptor y_En_canHaveCount.desc).map (fun d => d.parameters.length) = some 2 := by decide +kernel
theorem cal_En_bytesOf : y_En_bytesOf.cls ≠ "java/lang/invoke/MethodHandle" ∧ y_En_bytesOf.cls ≠ "java/lang/invoke/VarHandle" ∧ (parseMethodDescriptor y_En_bytesOf.desc).map (fun d => d.parameters.length) = some 1 := by decide +kernel
theorem cal_En_keepEntry : y_En_keepEntry.cls ≠ "java/lang/invoke/MethodHandle" ∧ y_En_keepEntry.cls ≠ "java/lang/invoke/VarHandle" ∧ (parseMethodDescriptor y_En_keepEntry.desc).map (fun d => d.parameters.length) = some 4 := by decide +kernel
theorem cal_En_take : y_En_take.cls ≠ "java/lang/invoke/MethodHandle" ∧ y_En_take.cls ≠ "java/lang/invoke/VarHandle" ∧ (parseMethodDescriptor y_En_take.desc).map (fun d => d.parameters.length) = some 3 := by decide +kernel
theorem cal_En_countOf : y_En_countOf.cls ≠ "java/lang/invoke/MethodHandle" ∧ y_En_countOf.cls ≠ "java/lang/invoke/VarHandle" ∧ (parseMethodDescriptor y_En_countOf.desc).map (fun d => d.parameters.length) = some 1 := by decide +kernel
theorem cal_En_firstMissing : y_En_firstMissing.cls ≠ "java/lang/invoke/MethodHandle" ∧ y_En_firstMissing.cls ≠ "java/lang/invoke/VarHandle" ∧ (parseMethodDescriptor y_En_firstMissing.desc).map (fun d => d.parameters.length) = some 0 := by decide +kernel
theorem cal_En_number : y_En_number.cls ≠ "java/lang/invoke/MethodHandle" ∧ y_En_number.cls ≠ "java/lang/invoke/VarHandle" ∧ (parseMethodDescriptor y_En_number.desc).map (fun d => d.parameters.length) = some 4 := by decide +kernel
theorem cal_Rd_hasPage : y_Rd_hasPage.cls ≠ "java/lang/invoke/MethodHandle" ∧ y_Rd_hasPage.cls ≠ "java/lang/invoke/VarHandle" ∧ (parseMethodDescriptor y_Rd_hasPage.desc).map (fun d => d.parameters.length) = some 1 := by decide +kernel
theorem cal_Rd_hasStrip : y_Rd_hasStrip.cls ≠ "java/lang/invoke/MethodHandle" ∧ y_Rd_hasStrip.cls ≠ "java/lang/invoke/VarHandle" ∧ (parseMethodDescriptor y_Rd_hasStrip.desc).map (fun d => d.parameters.length) = some 2 := by decide +kernel
theorem cal_Rd_ofStrip : y_Rd_ofStrip.cls ≠ "java/lang/invoke/MethodHandle" ∧ y_Rd_ofStrip.cls ≠ "java/lang/invoke/VarHandle" ∧ (parseMethodDescriptor y_Rd_ofStrip.desc).map (fun d => d.parameters.length) = some 3 := by decide +kernel
theorem cal_Rd_faultNumber : y_Rd_faultNumber.cls ≠ "java/lang/invoke/MethodHandle" ∧ y_Rd_faultNumber.cls ≠ "java/lang/invoke/VarHandle" ∧ (parseMethodDescriptor y_Rd_faultNumber.desc).map (fun d => d.parameters.length) = some 1 := by decide +kernel
theorem cal_Rd_forgetAll : y_Rd_forgetAll.cls ≠ "java/lang/invoke/MethodHandle" ∧ y_Rd_forgetAll.cls ≠ "java/lang/invoke/VarHandle" ∧ (parseMethodDescriptor y_Rd_forgetAll.desc).map (fun d => d.parameters.length) = some 0 := by decide +kernel
theorem cal_Rd_refuse : y_Rd_refuse.cls ≠ "java/lang/invoke/MethodHandle" ∧ y_Rd_refuse.cls ≠ "java/lang/invoke/VarHandle" ∧ (parseMethodDescriptor y_Rd_refuse.desc).map (fun d => d.parameters.length) = some 3 := by decide +kernel
theorem cal_Rd_takeHead : y_Rd_takeHead.cls ≠ "java/lang/invoke/MethodHandle" ∧ y_Rd_takeHead.cls ≠ "java/lang/invoke/VarHandle" ∧ (parseMethodDescriptor y_Rd_takeHead.desc).map (fun d => d.parameters.length) = some 0 := by decide +kernel
theorem cal_Rd_entriesAt : y_Rd_entriesAt.cls ≠ "java/lang/invoke/MethodHandle" ∧ y_Rd_entriesAt.cls ≠ "java/lang/invoke/VarHandle" ∧ (parseMethodDescriptor y_Rd_entriesAt.desc).map (fun d => d.parameters.length) = some 1 := by decide +kernel
theorem cal_Rd_linkOf : y_Rd_linkOf.cls ≠ "java/lang/invoke/MethodHandle" ∧ y_Rd_linkOf.cls ≠ "java/lang/invoke/VarHandle" ∧ (parseMethodDescriptor y_Rd_linkOf.desc).map (fun d => d.parameters.length) = some 1 := by decide +kernel
theorem cal_Rd_isDirectory : y_Rd_isDirectory.cls ≠ "java/lang/invoke/MethodHandle" ∧ y_Rd_isDirectory.cls ≠ "java/lang/invoke/VarHandle" ∧ (parseMethodDescriptor y_Rd_isDirectory.desc).map (fun d => d.parameters.length) = some 1 := by decide +kernel
theorem cal_Rd_takeEntries : y_Rd_takeEntries.cls ≠ "java/lang/invoke/MethodHandle" ∧ y_Rd_takeEntries.cls ≠ "java/lang/invoke/VarHandle" ∧ (parseMethodDescriptor y_Rd_takeEntries.desc).map (fun d => d.parameters.length) = some 1 := by decide +kernel
theorem cal_Rd_hasNeededTags : y_Rd_hasNeededTags.cls ≠ "java/lang/invoke/MethodHandle" ∧ y_Rd_hasNeededTags.cls ≠ "java/lang/invoke/VarHandle" ∧ (parseMethodDescriptor y_Rd_hasNeededTags.desc).map (fun d => d.parameters.length) = some 0 := by decide +kernel
theorem cal_Rd_keep : y_Rd_keep.cls ≠ "java/lang/invoke/MethodHandle" ∧ y_Rd_keep.cls ≠ "java/lang/invoke/VarHandle" ∧ (parseMethodDescriptor y_Rd_keep.desc).map (fun d => d.parameters.length) = some 2 := by decide +kernel
theorem cal_Rd_takeNumbers : y_Rd_takeNumbers.cls ≠ "java/lang/invoke/MethodHandle" ∧ y_Rd_takeNumbers.cls ≠ "java/lang/invoke/VarHandle" ∧ (parseMethodDescriptor y_Rd_takeNumbers.desc).map (fun d => d.parameters.length) = some 1 := by decide +kernel
theorem cal_Rd_wrongCount : y_Rd_wrongCount.cls ≠ "java/lang/invoke/MethodHandle" ∧ y_Rd_wrongCount.cls ≠ "java/lang/invoke/VarHandle" ∧ (parseMethodDescriptor y_Rd_wrongCount.desc).map (fun d => d.parameters.length) = some 1 := by decide +kernel
theorem cal_Rd_takeStrips : y_Rd_takeStrips.cls ≠ "java/lang/invoke/MethodHandle" ∧ y_Rd_takeStrips.cls ≠ "java/lang/invoke/VarHandle" ∧ (parseMethodDescriptor y_Rd_takeStrips.desc).map (fun d => d.parameters.length) = some 0 := by decide +kernel
theorem cal_Rd_takePage : y_Rd_takePage.cls ≠ "java/lang/invoke/MethodHandle" ∧ y_Rd_takePage.cls ≠ "java/lang/invoke/VarHandle" ∧ (parseMethodDescriptor y_Rd_takePage.desc).map (fun d => d.parameters.length) = some 1 := by decide +kernel
theorem cal_Rd_goThrough : y_Rd_goThrough.cls ≠ "java/lang/invoke/MethodHandle" ∧ y_Rd_goThrough.cls ≠ "java/lang/invoke/VarHandle" ∧ (parseMethodDescriptor y_Rd_goThrough.desc).map (fun d => d.parameters.length) = some 0 := by decide +kernel
theorem cal_PF_give : y_PF_give.cls ≠ "java/lang/invoke/MethodHandle" ∧ y_PF_give.cls ≠ "java/lang/invoke/VarHandle" ∧ (parseMethodDescriptor y_PF_give.desc).map (fun d => d.parameters.length) = some 2 := by decide +kernel
theorem cal_PF_poke : y_PF_poke.cls ≠ "java/lang/invoke/MethodHandle" ∧ y_PF_poke.cls ≠ "java/lang/invoke/VarHandle" ∧ (parseMethodDescriptor y_PF_poke.desc).map (fun d => d.parameters.length) = some 2 := by decide +kernel
theorem cal_PF_cut : y_PF_cut.cls ≠ "java/lang/invoke/MethodHandle" ∧ y_PF_cut.cls ≠ "java/lang/invoke/VarHandle" ∧ (parseMethodDescriptor y_PF_cut.desc).map (fun d => d.parameters.length) = some 1 := by decide +kernel
theorem cal_PF_bytes : y_PF_bytes.cls ≠ "java/lang/invoke/MethodHandle" ∧ y_PF_bytes.cls ≠ "java/lang/invoke/VarHandle" ∧ (parseMethodDescriptor y_PF_bytes.desc).map (fun d => d.parameters.length) = some 1 := by decide +kernel
theorem cal_PF_put : y_PF_put.cls ≠ "java/lang/invoke/MethodHandle" ∧ y_PF_put.cls ≠ "java/lang/invoke/VarHandle" ∧ (parseMethodDescriptor y_PF_put.desc).map (fun d => d.parameters.length) = some 2 := by decide +kernel
theorem cal_PF_fault : y_PF_fault.cls ≠ "java/lang/invoke/MethodHandle" ∧ y_PF_fault.cls ≠ "java/lang/invoke/VarHandle" ∧ (parseMethodDescriptor y_PF_fault.desc).map (fun d => d.parameters.length) = some 1 := by decide +kernel
theorem cal_PF_look : y_PF_look.cls ≠ "java/lang/invoke/MethodHandle" ∧ y_PF_look.cls ≠ "java/lang/invoke/VarHandle" ∧ (parseMethodDescriptor y_PF_look.desc).map (fun d => d.parameters.length) = some 1 := by decide +kernel
theorem cal_Md_thrown : y_Md_thrown.cls ≠ "java/lang/invoke/MethodHandle" ∧ y_Md_thrown.cls ≠ "java/lang/invoke/VarHandle" ∧ (parseMethodDescriptor y_Md_thrown.desc).map (fun d => d.parameters.length) = some 0 := by decide +kernel
theorem cal_Md_at : y_Md_at.cls ≠ "java/lang/invoke/MethodHandle" ∧ y_Md_at.cls ≠ "java/lang/invoke/VarHandle" ∧ (parseMethodDescriptor y_Md_at.desc).map (fun d => d.parameters.length) = some 1 := by decide +kernel
theorem cal_Md_one : y_Md_one.cls ≠ "java/lang/invoke/MethodHandle" ∧ y_Md_one.cls ≠ "java/lang/invoke/VarHandle" ∧ (parseMethodDescriptor y_Md_one.desc).map (fun d => d.parameters.length) = some 1 := by decide +kernel
theorem cal_Md_two : y_Md_two.cls ≠ "java/lang/invoke/MethodHandle" ∧ y_Md_two.cls ≠ "java/lang/invoke/VarHandle" ∧ (parseMethodDescriptor y_Md_two.desc).map (fun d => d.parameters.length) = some 1 := by decide +kernel
theorem cal_Md_four : y_Md_four.cls ≠ "java/lang/invoke/MethodHandle" ∧ y_Md_four.cls ≠ "java/lang/invoke/VarHandle" ∧ (parseMethodDescriptor y_Md_four.desc).map (fun d => d.parameters.length) = some 1 := by decide +kernel
theorem cal_Md_fourAt : y_Md_fourAt.cls ≠ "java/lang/invoke/MethodHandle" ∧ y_Md_fourAt.cls ≠ "java/lang/invoke/VarHandle" ∧ (parseMethodDescriptor y_Md_fourAt.desc).map (fun d => d.parameters.length) = some 2 := by decide +kernel
theorem cal_Md_begin : y_Md_begin.cls ≠ "java/lang/invoke/MethodHandle" ∧ y_Md_begin.cls ≠ "java/lang/invoke/VarHandle" ∧ (parseMethodDescriptor y_Md_begin.desc).map (fun d => d.parameters.length) = some 1 := by decide +kernel
theorem cal_Md_page : y_Md_page.cls ≠ "java/lang/invoke/MethodHandle" ∧ y_Md_page.cls ≠ "java/lang/invoke/VarHandle" ∧ (parseMethodDescriptor y_Md_page.desc).map (fun d => d.parameters.length) = some 5 := by decide +kernel
theorem cal_Md_start : y_Md_start.cls ≠ "java/lang/invoke/MethodHandle" ∧ y_Md_start.cls ≠ "java/lang/invoke/VarHandle" ∧ (parseMethodDescriptor y_Md_start.desc).map (fun d => d.parameters.length) = some 0 := by decide +kernel
theorem cal_Md_give : y_Md_give.cls ≠ "java/lang/invoke/MethodHandle" ∧ y_Md_give.cls ≠ "java/lang/invoke/VarHandle" ∧ (parseMethodDescriptor y_Md_give.desc).map (fun d => d.parameters.length) = some 2 := by decide +kernel
theorem cal_Md_poke : y_Md_poke.cls ≠ "java/lang/invoke/MethodHandle" ∧ y_Md_poke.cls ≠ "java/lang/invoke/VarHandle" ∧ (parseMethodDescriptor y_Md_poke.desc).map (fun d => d.parameters.length) = some 2 := by decide +kernel
theorem cal_Md_cut : y_Md_cut.cls ≠ "java/lang/invoke/MethodHandle" ∧ y_Md_cut.cls ≠ "java/lang/invoke/VarHandle" ∧ (parseMethodDescriptor y_Md_cut.desc).map (fun d => d.parameters.length) = some 1 := by decide +kernel
theorem cal_Md_bytes : y_Md_bytes.cls ≠ "java/lang/invoke/MethodHandle" ∧ y_Md_bytes.cls ≠ "java/lang/invoke/VarHandle" ∧ (parseMethodDescriptor y_Md_bytes.desc).map (fun d => d.parameters.length) = some 1 := by decide +kernel
theorem cal_Md_put : y_Md_put.cls ≠ "java/lang/invoke/MethodHandle" ∧ y_Md_put.cls ≠ "java/lang/invoke/VarHandle" ∧ (parseMethodDescriptor y_Md_put.desc).map (fun d => d.parameters.length) = some 2 := by decide +kernel
theorem cal_Md_strip : y_Md_strip.cls ≠ "java/lang/invoke/MethodHandle" ∧ y_Md_strip.cls ≠ "java/lang/invoke/VarHandle" ∧ (parseMethodDescriptor y_Md_strip.desc).map (fun d => d.parameters.length) = some 0 := by decide +kernel
theorem cal_Md_entryOf : y_Md_entryOf.cls ≠ "java/lang/invoke/MethodHandle" ∧ y_Md_entryOf.cls ≠ "java/lang/invoke/VarHandle" ∧ (parseMethodDescriptor y_Md_entryOf.desc).map (fun d => d.parameters.length) = some 4 := by decide +kernel
theorem cal_Md_close : y_Md_close.cls ≠ "java/lang/invoke/MethodHandle" ∧ y_Md_close.cls ≠ "java/lang/invoke/VarHandle" ∧ (parseMethodDescriptor y_Md_close.desc).map (fun d => d.parameters.length) = some 0 := by decide +kernel
theorem cal_Md_end : y_Md_end.cls ≠ "java/lang/invoke/MethodHandle" ∧ y_Md_end.cls ≠ "java/lang/invoke/VarHandle" ∧ (parseMethodDescriptor y_Md_end.desc).map (fun d => d.parameters.length) = some 0 := by decide +kernel
theorem cal_Md_readTwo : y_Md_readTwo.cls ≠ "java/lang/invoke/MethodHandle" ∧ y_Md_readTwo.cls ≠ "java/lang/invoke/VarHandle" ∧ (parseMethodDescriptor y_Md_readTwo.desc).map (fun d => d.parameters.length) = some 1 := by decide +kernel
theorem cal_Md_readFour : y_Md_readFour.cls ≠ "java/lang/invoke/MethodHandle" ∧ y_Md_readFour.cls ≠ "java/lang/invoke/VarHandle" ∧ (parseMethodDescriptor y_Md_readFour.desc).map (fun d => d.parameters.length) = some 1 := by decide +kernel
theorem cal_Md_known : y_Md_known.cls ≠ "java/lang/invoke/MethodHandle" ∧ y_Md_known.cls ≠ "java/lang/invoke/VarHandle" ∧ (parseMethodDescriptor y_Md_known.desc).map (fun d => d.parameters.length) = some 1 := by decide +kernel
theorem cal_Md_wrong : y_Md_wrong.cls ≠ "java/lang/invoke/MethodHandle" ∧ y_Md_wrong.cls ≠ "java/lang/invoke/VarHandle" ∧ (parseMethodDescriptor y_Md_wrong.desc).map (fun d => d.parameters.length) = some 4 := by decide +kernel
theorem cal_Md_sizeOf : y_Md_sizeOf.cls ≠ "java/lang/invoke/MethodHandle" ∧ y_Md_sizeOf.cls ≠ "java/lang/invoke/VarHandle" ∧ (parseMethodDescriptor y_Md_sizeOf.desc).map (fun d => d.parameters.length) = some 1 := by decide +kernel
theorem cal_Md_sound : y_Md_sound.cls ≠ "java/lang/invoke/MethodHandle" ∧ y_Md_sound.cls ≠ "java/lang/invoke/VarHandle" ∧ (parseMethodDescriptor y_Md_sound.desc).map (fun d => d.parameters.length) = some 3 := by decide +kernel
theorem cal_Md_value : y_Md_value.cls ≠ "java/lang/invoke/MethodHandle" ∧ y_Md_value.cls ≠ "java/lang/invoke/VarHandle" ∧ (parseMethodDescriptor y_Md_value.desc).map (fun d => d.parameters.length) = some 2 := by decide +kernel
theorem cal_Md_valueOr : y_Md_valueOr.cls ≠ "java/lang/invoke/MethodHandle" ∧ y_Md_valueOr.cls ≠ "java/lang/invoke/VarHandle" ∧ (parseMethodDescriptor y_Md_valueOr.desc).map (fun d => d.parameters.length) = some 3 := by decide +kernel
theorem cal_Md_entries : y_Md_entries.cls ≠ "java/lang/invoke/MethodHandle" ∧ y_Md_entries.cls ≠ "java/lang/invoke/VarHandle" ∧ (parseMethodDescriptor y_Md_entries.desc).map (fun d => d.parameters.length) = some 2 := by decide +kernel
theorem cal_Md_stripsOf : y_Md_stripsOf.cls ≠ "java/lang/invoke/MethodHandle" ∧ y_Md_stripsOf.cls ≠ "java/lang/invoke/VarHandle" ∧ (parseMethodDescriptor y_Md_stripsOf.desc).map (fun d => d.parameters.length) = some 2 := by decide +kernel
theorem cal_Md_values : y_Md_values.cls ≠ "java/lang/invoke/MethodHandle" ∧ y_Md_values.cls ≠ "java/lang/invoke/VarHandle" ∧ (parseMethodDescriptor y_Md_values.desc).map (fun d => d.parameters.length) = some 1 := by decide +kernel
theorem cal_Md_lies : y_Md_lies.cls ≠ "java/lang/invoke/MethodHandle" ∧ y_Md_lies.cls ≠ "java/lang/invoke/VarHandle" ∧ (parseMethodDescriptor y_Md_lies.desc).map (fun d => d.parameters.length) = some 1 := by decide +kernel
theorem cal_Md_gone : y_Md_gone.cls ≠ "java/lang/invoke/MethodHandle" ∧ y_Md_gone.cls ≠ "java/lang/invoke/VarHandle" ∧ (parseMethodDescriptor y_Md_gone.desc).map (fun d => d.parameters.length) = some 0 := by decide +kernel
theorem cal_Md_read : y_Md_read.cls ≠ "java/lang/invoke/MethodHandle" ∧ y_Md_read.cls ≠ "java/lang/invoke/VarHandle" ∧ (parseMethodDescriptor y_Md_read.desc).map (fun d => d.parameters.length) = some 0 := by decide +kernel
theorem cal_Md_fault : y_Md_fault.cls ≠ "java/lang/invoke/MethodHandle" ∧ y_Md_fault.cls ≠ "java/lang/invoke/VarHandle" ∧ (parseMethodDescriptor y_Md_fault.desc).map (fun d => d.parameters.length) = some 1 := by decide +kernel
theorem cal_Md_of : y_Md_of.cls ≠ "java/lang/invoke/MethodHandle" ∧ y_Md_of.cls ≠ "java/lang/invoke/VarHandle" ∧ (parseMethodDescriptor y_Md_of.desc).map (fun d => d.parameters.length) = some 2 := by decide +kernel
theorem cal_Md_isStrip : y_Md_isStrip.cls ≠ "java/lang/invoke/MethodHandle" ∧ y_Md_isStrip.cls ≠ "java/lang/invoke/VarHandle" ∧ (parseMethodDescriptor y_Md_isStrip.desc).map (fun d => d.parameters.length) = some 2 := by decide +kernel
theorem cal_Md_where : y_Md_where.cls ≠ "java/lang/invoke/MethodHandle" ∧ y_Md_where.cls ≠ "java/lang/invoke/VarHandle" ∧ (parseMethodDescriptor y_Md_where.desc).map (fun d => d.parameters.length) = some 3 := by decide +kernel
theorem cal_Md_dots : y_Md_dots.cls ≠ "java/lang/invoke/MethodHandle" ∧ y_Md_dots.cls ≠ "java/lang/invoke/VarHandle" ∧ (parseMethodDescriptor y_Md_dots.desc).map (fun d => d.parameters.length) = some 3 := by decide +kernel
theorem cal_Md_look : y_Md_look.cls ≠ "java/lang/invoke/MethodHandle" ∧ y_Md_look.cls ≠ "java/lang/invoke/VarHandle" ∧ (parseMethodDescriptor y_Md_look.desc).map (fun d => d.parameters.length) = some 1 := by decide +kernel
theorem cal_Row_init : y_Row_init.cls ≠ "java/lang/invoke/MethodHandle" ∧ y_Row_init.cls ≠ "java/lang/invoke/VarHandle" ∧ (parseMethodDescriptor y_Row_init.desc).map (fun d => d.parameters.length) = some 0 := by decide +kernel
theorem cal_St_init : y_St_init.cls ≠ "java/lang/invoke/MethodHandle" ∧ y_St_init.cls ≠ "java/lang/invoke/VarHandle" ∧ (parseMethodDescriptor y_St_init.desc).map (fun d => d.parameters.length) = some 1 := by decide +kernel
theorem cal_Mk_init : y_Mk_init.cls ≠ "java/lang/invoke/MethodHandle" ∧ y_Mk_init.cls ≠ "java/lang/invoke/VarHandle" ∧ (parseMethodDescriptor y_Mk_init.desc).map (fun d => d.parameters.length) = some 1 := by decide +kernel
theorem cal_Pn_init : y_Pn_init.cls ≠ "java/lang/invoke/MethodHandle" ∧ y_Pn_init.cls ≠ "java/lang/invoke/VarHandle" ∧ (parseMethodDescriptor y_Pn_init.desc).map (fun d => d.parameters.length) = some 0 := by decide +kernel
theorem cal_En_init : y_En_init.cls ≠ "java/lang/invoke/MethodHandle" ∧ y_En_init.cls ≠ "java/lang/invoke/VarHandle" ∧ (parseMethodDescriptor y_En_init.desc).map (fun d => d.parameters.length) = some 1 := by decide +kernel
theorem cal_Rd_init : y_Rd_init.cls ≠ "java/lang/invoke/MethodHandle" ∧ y_Rd_init.cls ≠ "java/lang/invoke/VarHandle" ∧ (parseMethodDescriptor y_Rd_init.desc).map (fun d => d.parameters.length) = some 1 := by decide +kernel
theorem cal_PF_init : y_PF_init.cls ≠ "java/lang/invoke/MethodHandle" ∧ y_PF_init.cls ≠ "java/lang/invoke/VarHandle" ∧ (parseMethodDescriptor y_PF_init.desc).map (fun d => d.parameters.length) = some 0 := by decide +kernel
theorem cal_Md_init : y_Md_init.cls ≠ "java/lang/invoke/MethodHandle" ∧ y_Md_init.cls ≠ "java/lang/invoke/VarHandle" ∧ (parseMethodDescriptor y_Md_init.desc).map (fun d => d.parameters.length) = some 0 := by decide +kernel
theorem cal_PF_begin : y_PF_begin.cls ≠ "java/lang/invoke/MethodHandle" ∧ y_PF_begin.cls ≠ "java/lang/invoke/VarHandle" ∧ (parseMethodDescriptor y_PF_begin.desc).map (fun d => d.parameters.length) = some 1 := by decide +kernel
theorem cal_PF_page : y_PF_page.cls ≠ "java/lang/invoke/MethodHandle" ∧ y_PF_page.cls ≠ "java/lang/invoke/VarHandle" ∧ (parseMethodDescriptor y_PF_page.desc).map (fun d => d.parameters.length) = some 5 := by decide +kernel
theorem cal_PF_strip : y_PF_strip.cls ≠ "java/lang/invoke/MethodHandle" ∧ y_PF_strip.cls ≠ "java/lang/invoke/VarHandle" ∧ (parseMethodDescriptor y_PF_strip.desc).map (fun d => d.parameters.length) = some 0 := by decide +kernel
theorem cal_PF_close : y_PF_close.cls ≠ "java/lang/invoke/MethodHandle" ∧ y_PF_close.cls ≠ "java/lang/invoke/VarHandle" ∧ (parseMethodDescriptor y_PF_close.desc).map (fun d => d.parameters.length) = some 0 := by decide +kernel
theorem cal_PF_end : y_PF_end.cls ≠ "java/lang/invoke/MethodHandle" ∧ y_PF_end.cls ≠ "java/lang/invoke/VarHandle" ∧ (parseMethodDescriptor y_PF_end.desc).map (fun d => d.parameters.length) = some 0 := by decide +kernel
theorem cal_PF_read : y_PF_read.cls ≠ "java/lang/invoke/MethodHandle" ∧ y_PF_read.cls ≠ "java/lang/invoke/VarHandle" ∧ (parseMethodDescriptor y_PF_read.desc).map (fun d => d.parameters.length) = some 0 := by decide +kernel
theorem cal_PF_of : y_PF_of.cls ≠ "java/lang/invoke/MethodHandle" ∧ y_PF_of.cls ≠ "java/lang/invoke/VarHandle" ∧ (parseMethodDescriptor y_PF_of.desc).map (fun d => d.parameters.length) = some 2 := by decide +kernel
theorem cal_PF_where : y_PF_where.cls ≠ "java/lang/invoke/MethodHandle" ∧ y_PF_where.cls ≠ "java/lang/invoke/VarHandle" ∧ (parseMethodDescriptor y_PF_where.desc).map (fun d => d.parameters.length) = some 3 := by decide +kernel
theorem cal_PF_dots : y_PF_dots.cls ≠ "java/lang/invoke/MethodHandle" ∧ y_PF_dots.cls ≠ "java/lang/invoke/VarHandle" ∧ (parseMethodDescriptor y_PF_dots.desc).map (fun d => d.parameters.length) = some 3 := by decide +kernel
theorem cal_Lw_begin : y_Lw_begin.cls ≠ "java/lang/invoke/MethodHandle" ∧ y_Lw_begin.cls ≠ "java/lang/invoke/VarHandle" ∧ (parseMethodDescriptor y_Lw_begin.desc).map (fun d => d.parameters.length) = some 2 := by decide +kernel
theorem cal_Lw_page : y_Lw_page.cls ≠ "java/lang/invoke/MethodHandle" ∧ y_Lw_page.cls ≠ "java/lang/invoke/VarHandle" ∧ (parseMethodDescriptor y_Lw_page.desc).map (fun d => d.parameters.length) = some 7 := by decide +kernel
theorem cal_Lw_strip : y_Lw_strip.cls ≠ "java/lang/invoke/MethodHandle" ∧ y_Lw_strip.cls ≠ "java/lang/invoke/VarHandle" ∧ (parseMethodDescriptor y_Lw_strip.desc).map (fun d => d.parameters.length) = some 2 := by decide +kernel
theorem cal_Lw_close : y_Lw_close.cls ≠ "java/lang/invoke/MethodHandle" ∧ y_Lw_close.cls ≠ "java/lang/invoke/VarHandle" ∧ (parseMethodDescriptor y_Lw_close.desc).map (fun d => d.parameters.length) = some 2 := by decide +kernel
theorem cal_Lw_end : y_Lw_end.cls ≠ "java/lang/invoke/MethodHandle" ∧ y_Lw_end.cls ≠ "java/lang/invoke/VarHandle" ∧ (parseMethodDescriptor y_Lw_end.desc).map (fun d => d.parameters.length) = some 2 := by decide +kernel
theorem cal_Lw_read : y_Lw_read.cls ≠ "java/lang/invoke/MethodHandle" ∧ y_Lw_read.cls ≠ "java/lang/invoke/VarHandle" ∧ (parseMethodDescriptor y_Lw_read.desc).map (fun d => d.parameters.length) = some 2 := by decide +kernel
theorem cal_Lw_of : y_Lw_of.cls ≠ "java/lang/invoke/MethodHandle" ∧ y_Lw_of.cls ≠ "java/lang/invoke/VarHandle" ∧ (parseMethodDescriptor y_Lw_of.desc).map (fun d => d.parameters.length) = some 4 := by decide +kernel
theorem cal_Lw_where : y_Lw_where.cls ≠ "java/lang/invoke/MethodHandle" ∧ y_Lw_where.cls ≠ "java/lang/invoke/VarHandle" ∧ (parseMethodDescriptor y_Lw_where.desc).map (fun d => d.parameters.length) = some 5 := by decide +kernel
theorem cal_Lw_dots : y_Lw_dots.cls ≠ "java/lang/invoke/MethodHandle" ∧ y_Lw_dots.cls ≠ "java/lang/invoke/VarHandle" ∧ (parseMethodDescriptor y_Lw_dots.desc).map (fun d => d.parameters.length) = some 5 := by decide +kernel
theorem cal_copyOfB : y_copyOfB.cls ≠ "java/lang/invoke/MethodHandle" ∧ y_copyOfB.cls ≠ "java/lang/invoke/VarHandle" ∧ (parseMethodDescriptor y_copyOfB.desc).map (fun d => d.parameters.length) = some 2 := by decide +kernel
theorem cal_copyOfI : y_copyOfI.cls ≠ "java/lang/invoke/MethodHandle" ∧ y_copyOfI.cls ≠ "java/lang/invoke/VarHandle" ∧ (parseMethodDescriptor y_copyOfI.desc).map (fun d => d.parameters.length) = some 2 := by decide +kernel
theorem cal_fillI : y_fillI.cls ≠ "java/lang/invoke/MethodHandle" ∧ y_fillI.cls ≠ "java/lang/invoke/VarHandle" ∧ (parseMethodDescriptor y_fillI.desc).map (fun d => d.parameters.length) = some 2 := by decide +kernel
