-- PictureFile.isWithin(JJJ)Z
def M_PF_isWithin (p0 : Int64) (p1 : Int64) (p2 : Int64) : Int32 := if (lg_cmp p0 p1) < 0 then (0) else (if 0 < (lg_cmp p0 p2) then (0) else (1))
theorem nb_PF_isWithin (p0 : Int64) (p1 : Int64) (p2 : Int64) : narrow .boolean (.int (M_PF_isWithin p0 p1 p2)) = .int (M_PF_isWithin p0 p1 p2) := by unfold M_PF_isWithin; (try dsimp only); (repeat' split) <;> first | rfl
-- PictureFile.isPartLength(I)Z
def M_PF_isPartLength (p0 : Int32) : Int32 := (M_PF_isWithin p0.toInt64 1 8)
theorem nb_PF_isPartLength (p0 : Int32) : narrow .boolean (.int (M_PF_isPartLength p0)) = .int (M_PF_isPartLength p0) := by unfold M_PF_isPartLength; (try dsimp only); exact nb_PF_isWithin _ _ _
-- PictureFile.isOrder(I)Z
def M_PF_isOrder (p0 : Int32) : Int32 := if p0 = 73 then (1) else (if p0 = 77 then (1) else (0))
theorem nb_PF_isOrder (p0 : Int32) : narrow .boolean (.int (M_PF_isOrder p0)) = .int (M_PF_isOrder p0) := by unfold M_PF_isOrder; (try dsimp only); (repeat' split) <;> first | rfl
-- PictureFile.isFineness(I)Z
def M_PF_isFineness (p0 : Int32) : Int32 := (M_PF_isWithin p0.toInt64 1 10000)
theorem nb_PF_isFineness (p0 : Int32) : narrow .boolean (.int (M_PF_isFineness p0)) = .int (M_PF_isFineness p0) := by unfold M_PF_isFineness; (try dsimp only); exact nb_PF_isWithin _ _ _
-- PictureFile.stripsOf(JJ)J
def M_PF_stripsOf (p0 : Int64) (p1 : Int64) : Int64 := if 0 ≤ (lg_cmp p1 1) then ((((p0 + p1) - 1) / p1)) else (0)
-- PictureFile.isSheet(III)Z
def M_PF_isSheet (p0 : Int32) (p1 : Int32) (p2 : Int32) : Int32 := if (M_PF_isWithin p0.toInt64 1 20000) = 0 then (0) else (if (M_PF_isWithin p1.toInt64 1 20000) = 0 then (0) else (if (M_PF_isWithin p2.toInt64 1 p1.toInt64) = 0 then (0) else (if 0 < (lg_cmp (M_PF_stripsOf p1.toInt64 p2.toInt64) 512) then (0) else (1))))
theorem nb_PF_isSheet (p0 : Int32) (p1 : Int32) (p2 : Int32) : narrow .boolean (.int (M_PF_isSheet p0 p1 p2)) = .int (M_PF_isSheet p0 p1 p2) := by unfold M_PF_isSheet; (try dsimp only); (repeat' split) <;> first | rfl | exact nb_PF_isWithin _ _ _
-- PictureFile$Row.at(J)I
def M_Row_at (ro : RowS) (p0 : Int64) : Int32 := if (lg_cmp p0 0) < 0 then (0) else (if 0 ≤ (lg_cmp p0 ro.2.2.toInt64) then (0) else (if 0 ≤ (lg_cmp p0 ((nI ro.1).toInt64)) then (0) else (((ro.2.1 p0.toInt32.toNatClampNeg) &&& 255))))
-- PictureFile$Row.shiftOf(III)I
def M_Row_shiftOf (p0 : Int32) (p1 : Int32) (p2 : Int32) : Int32 := if p2 = 77 then ((8 * ((p1 - 1) - p0))) else ((8 * p0))
-- PictureFile$Row.replace(II)V
def M_Row_replace (ro : RowS) (p0 : Int32) (p1 : Int32) : RowS := if p0 < 0 then (ro) else (if ro.2.2 ≤ p0 then (ro) else (if (nI ro.1) ≤ p0 then (ro) else ((ro.1, (upd ro.2.1 p0.toNatClampNeg (vp_nar .byte p1.toInt8.toInt32)), ro.2.2))))
-- PictureFile$Row.add(I)V
def M_Row_add (ro : RowS) (p0 : Int32) : RowS := if ro.2.2 < (nI ro.1) then (if ro.2.2 < 0 then (ro) else (if (nI ro.1) ≤ ro.2.2 then (ro) else (let y1 := (ro.2.2 + 1); (ro.1, (upd ro.2.1 ro.2.2.toNatClampNeg (vp_nar .byte p0.toInt8.toInt32)), y1)))) else (if 65536 ≤ ro.2.2 then (if ro.2.2 < 0 then (ro) else (if (nI ro.1) ≤ ro.2.2 then (ro) else (let y2 := (ro.2.2 + 1); (ro.1, (upd ro.2.1 ro.2.2.toNatClampNeg (vp_nar .byte p0.toInt8.toInt32)), y2)))) else (if ro.2.2 < 0 then (((if 65536 < (2 * ro.2.2) then 65536 else (2 * ro.2.2)).toNatClampNeg, (cpyN ro.2.1 ro.1 (if 65536 < (2 * ro.2.2) then 65536 else (2 * ro.2.2))), ro.2.2)) else (if (nI ((if 65536 < (2 * ro.2.2) then 65536 else (2 * ro.2.2)).toNatClampNeg)) ≤ ro.2.2 then (((if 65536 < (2 * ro.2.2) then 65536 else (2 * ro.2.2)).toNatClampNeg, (cpyN ro.2.1 ro.1 (if 65536 < (2 * ro.2.2) then 65536 else (2 * ro.2.2))), ro.2.2)) else (let y3 := (ro.2.2 + 1); ((if 65536 < (2 * ro.2.2) then 65536 else (2 * ro.2.2)).toNatClampNeg, (upd (cpyN ro.2.1 ro.1 (if 65536 < (2 * ro.2.2) then 65536 else (2 * ro.2.2))) ro.2.2.toNatClampNeg (vp_nar .byte p0.toInt8.toInt32)), y3)))))
-- PictureFile$Row.number(JII)J
def L_Row_number (ro : RowS) (p0 : Int64) (p1 : Int32) (p2 : Int32) : Nat → Int32 → Int64 → Int64
  | 0, _, _ => 0
  | n + 1, v7, v5 => if p1 ≤ v7 then (v5) else (L_Row_number ro p0 p1 p2 n (v7 + 1) (v5 ||| ((M_Row_at ro (p0 + v7.toInt64)).toInt64 <<< ((M_Row_shiftOf v7 p1 p2).toInt64 &&& 63))))
def M_Row_number (ro : RowS) (p0 : Int64) (p1 : Int32) (p2 : Int32) : Int64 := L_Row_number ro p0 p1 p2 ((p1.toInt - (0 : Int32).toInt).toNat + 1) 0 0
-- PictureFile$Row.append(JII)V
def L_Row_append (p0 : Int64) (p1 : Int32) (p2 : Int32) : Nat → Int32 → RowS → RowS
  | 0, _, roL => roL
  | n + 1, v5, roL => if p1 ≤ v5 then (roL) else (let x1 := M_Row_add roL ((p0 >>> ((M_Row_shiftOf v5 p1 p2).toInt64 &&& 63)).toInt32); L_Row_append p0 p1 p2 n (v5 + 1) x1)
def M_Row_append (ro : RowS) (p0 : Int64) (p1 : Int32) (p2 : Int32) : RowS := L_Row_append p0 p1 p2 ((p1.toInt - (0 : Int32).toInt).toNat + 1) 0 ro
-- PictureFile$Row.replaceLong(IJI)V
def L_Row_replaceLong (p0 : Int32) (p1 : Int64) (p2 : Int32) : Nat → Int32 → RowS → RowS
  | 0, _, roL => roL
  | n + 1, v5, roL => if 4 ≤ v5 then (roL) else (let x1 := M_Row_replace roL (p0 + v5) ((p1 >>> ((M_Row_shiftOf v5 4 p2).toInt64 &&& 63)).toInt32); L_Row_replaceLong p0 p1 p2 n (v5 + 1) x1)
def M_Row_replaceLong (ro : RowS) (p0 : Int32) (p1 : Int64) (p2 : Int32) : RowS := L_Row_replaceLong p0 p1 p2 (((4 : Int32).toInt - (0 : Int32).toInt).toNat + 1) 0 ro
-- PictureFile$Row.makeEven()V
def M_Row_makeEven (ro : RowS) : RowS := if (ro.2.2 - ro.2.2 / 2 * 2) = 0 then (ro) else (let x1 := M_Row_add ro 0; x1)
-- PictureFile$Strips.get(II)I
def M_St_get (st : RowS) (p0 : Int32) (p1 : Int32) : Int32 := if ((2 * p0) + p1) < 0 then (0) else (if (nI st.1) ≤ ((2 * p0) + p1) then (0) else ((st.2.1 ((2 * p0) + p1).toNatClampNeg)))
-- PictureFile$Strips.add(II)V
def M_St_add (mo : Int32) (st : RowS) (p0 : Int32) (p1 : Int32) : RowS := if (2 * st.2.2) < (nI st.1) then (if (2 * st.2.2) < 0 then (st) else (if (nI st.1) ≤ ((2 * st.2.2) + 1) then (st) else (let y1 := (st.2.2 + 1); (st.1, (upd (upd st.2.1 (2 * st.2.2).toNatClampNeg p0) ((2 * st.2.2) + 1).toNatClampNeg p1), y1)))) else (if mo ≤ st.2.2 then (if (2 * st.2.2) < 0 then (st) else (if (nI st.1) ≤ ((2 * st.2.2) + 1) then (st) else (let y2 := (st.2.2 + 1); (st.1, (upd (upd st.2.1 (2 * st.2.2).toNatClampNeg p0) ((2 * st.2.2) + 1).toNatClampNeg p1), y2)))) else (if (2 * st.2.2) < 0 then (((2 * (if mo < (2 * st.2.2) then mo else (2 * st.2.2))).toNatClampNeg, (cpyN st.2.1 st.1 (2 * (if mo < (2 * st.2.2) then mo else (2 * st.2.2)))), st.2.2)) else (if (nI ((2 * (if mo < (2 * st.2.2) then mo else (2 * st.2.2))).toNatClampNeg)) ≤ ((2 * st.2.2) + 1) then (((2 * (if mo < (2 * st.2.2) then mo else (2 * st.2.2))).toNatClampNeg, (cpyN st.2.1 st.1 (2 * (if mo < (2 * st.2.2) then mo else (2 * st.2.2)))), st.2.2)) else (let y3 := (st.2.2 + 1); ((2 * (if mo < (2 * st.2.2) then mo else (2 * st.2.2))).toNatClampNeg, (upd (upd (cpyN st.2.1 st.1 (2 * (if mo < (2 * st.2.2) then mo else (2 * st.2.2)))) (2 * st.2.2).toNatClampNeg p0) ((2 * st.2.2) + 1).toNatClampNeg p1), y3)))))
-- PictureFile$Maker.addShort(I)V
def M_Mk_addShort (mk : Nat → Int32) (ro : RowS) (p0 : Int32) : RowS := let x1 := M_Row_append ro p0.toInt64 2 (mk 2); x1
-- PictureFile$Maker.addLong(I)V
def M_Mk_addLong (mk : Nat → Int32) (ro : RowS) (p0 : Int32) : RowS := let x1 := M_Row_append ro p0.toInt64 4 (mk 2); x1
-- PictureFile$Maker.leavePage()V
def M_Mk_leavePage (mk : Nat → Int32) (st : RowS) : (Nat → Int32) × RowS := ((upd (upd (upd mk 1 0) 10 0) 11 0), (st.1, st.2.1, 0))
-- PictureFile$Maker.startFile(I)V
def M_Mk_startFile (mk : Nat → Int32) (ro : RowS) (st : RowS) (p0 : Int32) : (Nat → Int32) × RowS × RowS := let x1 := M_Mk_leavePage (upd (upd (upd (upd mk 0 1) 2 p0) 3 0) 4 4) st; let x2 := M_Row_append (ro.1, ro.2.1, 0) ((x1.1 2).toInt64) 1 (x1.1 2); let x3 := M_Row_append x2 ((x1.1 2).toInt64) 1 (x1.1 2); let x4 := M_Mk_addShort x1.1 x3 42; let x5 := M_Mk_addLong x1.1 x4 0; (x1.1, x5, x1.2)
-- PictureFile$Maker.startPage(IIIII)V
def M_Mk_startPage (mk : Nat → Int32) (p0 : Int32) (p1 : Int32) (p2 : Int32) (p3 : Int32) (p4 : Int32) : (Nat → Int32) := let y1 := (M_PF_stripsOf p1.toInt64 p2.toInt64).toInt32; (upd (upd (upd (upd (upd (upd (upd mk 1 1) 5 p0) 6 p1) 7 p2) 8 p3) 9 p4) 10 y1)
-- PictureFile$Maker.stripsToCome()I
def M_Mk_stripsToCome (mk : Nat → Int32) (st : RowS) : Int32 := ((mk 10) - st.2.2)
-- PictureFile$Maker.hasRoomFor(I)Z
def M_Mk_hasRoomFor (mk : Nat → Int32) (ro : RowS) (p0 : Int32) : Int32 := if (mk 11) = 0 then (if 60000 < ((ro.2.2 + (ro.2.2 - ro.2.2 / 2 * 2)) + p0) then (0) else (1)) else (if 60000 < ((ro.2.2 + 0) + p0) then (0) else (1))
theorem nb_Mk_hasRoomFor (mk : Nat → Int32) (ro : RowS) (p0 : Int32) : narrow .boolean (.int (M_Mk_hasRoomFor mk ro p0)) = .int (M_Mk_hasRoomFor mk ro p0) := by unfold M_Mk_hasRoomFor; (try dsimp only); (repeat' split) <;> first | rfl
-- PictureFile$Maker.addToStrip(JI)V
def M_Mk_addToStrip (mk : Nat → Int32) (ro : RowS) (p0 : Int64) (p1 : Int32) : (Nat → Int32) × RowS := if (mk 11) = 0 then (let x3 := M_Row_makeEven ro; let x4 := M_Row_append x3 p0 p1 77; let y5 := ((mk 11) + p1); ((upd mk 11 y5), x4)) else (let x1 := M_Row_append ro p0 p1 77; let y2 := ((mk 11) + p1); ((upd mk 11 y2), x1))
-- PictureFile$Maker.finishStrip()V
def M_Mk_finishStrip (mk : Nat → Int32) (ro : RowS) (st : RowS) : (Nat → Int32) × RowS × RowS := if (mk 11) = 0 then (let x2 := M_Row_makeEven ro; let x3 := M_St_add 512 st (x2.2.2 - (mk 11)) (mk 11); ((upd mk 11 0), x2, x3)) else (let x1 := M_St_add 512 st (ro.2.2 - (mk 11)) (mk 11); ((upd mk 11 0), ro, x1))
-- PictureFile$Maker.hasLists()Z
def M_Mk_hasLists (st : RowS) : Int32 := if st.2.2 < 2 then (0) else (1)
theorem nb_Mk_hasLists (st : RowS) : narrow .boolean (.int (M_Mk_hasLists st)) = .int (M_Mk_hasLists st) := by unfold M_Mk_hasLists; (try dsimp only); (repeat' split) <;> first | rfl
-- PictureFile$Maker.sizeWithPage()I
def M_Mk_sizeWithPage (ro : RowS) (st : RowS) : Int32 := if (M_Mk_hasLists st) = 0 then ((((((ro.2.2 + (ro.2.2 - ro.2.2 / 2 * 2)) + 0) + 16) + 122) + 4)) else ((((((ro.2.2 + (ro.2.2 - ro.2.2 / 2 * 2)) + (8 * st.2.2)) + 16) + 122) + 4))
-- PictureFile$Maker.addList(I)V
def L_Mk_addList (mk : Nat → Int32) (st : RowS) (p0 : Int32) : Nat → Int32 → RowS → RowS
  | 0, _, roL => roL
  | n + 1, v2, roL => if st.2.2 ≤ v2 then (roL) else (let x1 := M_Mk_addLong mk roL (M_St_get st v2 p0); L_Mk_addList mk st p0 n (v2 + 1) x1)
def M_Mk_addList (mk : Nat → Int32) (ro : RowS) (st : RowS) (p0 : Int32) : RowS := L_Mk_addList mk st p0 ((st.2.2.toInt - (0 : Int32).toInt).toNat + 1) 0 ro
-- PictureFile$Maker.addFineness(I)V
def M_Mk_addFineness (mk : Nat → Int32) (ro : RowS) (p0 : Int32) : RowS := let x1 := M_Mk_addLong mk ro p0; let x2 := M_Mk_addLong mk x1 1; x2
-- PictureFile$Maker.addEntry(IIII)V
def M_Mk_addEntry (mk : Nat → Int32) (ro : RowS) (p0 : Int32) (p1 : Int32) (p2 : Int32) (p3 : Int32) : RowS := let x1 := M_Mk_addShort mk ro p0; let x2 := M_Mk_addShort mk x1 p1; let x3 := M_Mk_addLong mk x2 p2; if p1 = 3 then (let x5 := M_Mk_addShort mk x3 p3; let x6 := M_Mk_addShort mk x5 0; x6) else (let x4 := M_Mk_addLong mk x3 p3; x4)
-- PictureFile$Maker.addDirectory(II)V
def M_Mk_addDirectory (mk : Nat → Int32) (ro : RowS) (st : RowS) (p0 : Int32) (p1 : Int32) : RowS := let x1 := M_Mk_addShort mk ro 10; let x2 := M_Mk_addEntry mk x1 256 4 1 (mk 5); let x3 := M_Mk_addEntry mk x2 257 4 1 (mk 6); let x4 := M_Mk_addEntry mk x3 259 3 1 4; let x5 := M_Mk_addEntry mk x4 262 3 1 0; if (M_Mk_hasLists st) = 0 then (let x6 := M_Mk_addEntry mk x5 273 4 st.2.2 (M_St_get st 0 0); let x7 := M_Mk_addEntry mk x6 278 4 1 (mk 7); let x8 := M_Mk_addEntry mk x7 279 4 st.2.2 (M_St_get st 0 1); let x9 := M_Mk_addEntry mk x8 282 5 1 p1; let x10 := M_Mk_addEntry mk x9 283 5 1 (p1 + 8); let x11 := M_Mk_addEntry mk x10 296 3 1 2; let x12 := M_Mk_addLong mk x11 0; x12) else (let x13 := M_Mk_addEntry mk x5 273 4 st.2.2 p0; let x14 := M_Mk_addEntry mk x13 278 4 1 (mk 7); let x15 := M_Mk_addEntry mk x14 279 4 st.2.2 (p0 + (4 * st.2.2)); let x16 := M_Mk_addEntry mk x15 282 5 1 p1; let x17 := M_Mk_addEntry mk x16 283 5 1 (p1 + 8); let x18 := M_Mk_addEntry mk x17 296 3 1 2; let x19 := M_Mk_addLong mk x18 0; x19)
-- PictureFile$Maker.finishPage()V
def M_Mk_finishPage (mk : Nat → Int32) (ro : RowS) (st : RowS) : (Nat → Int32) × RowS × RowS := let x1 := M_Row_makeEven ro; if (M_Mk_hasLists st) = 0 then (let x2 := M_Mk_addFineness mk x1 (mk 8); let x3 := M_Mk_addFineness mk x2 (mk 9); let x4 := M_Mk_addDirectory mk x3 st x1.2.2 x1.2.2; let x5 := M_Row_replaceLong x4 (mk 4) x3.2.2.toInt64 (mk 2); let y6 := (x3.2.2 + 122); let y7 := ((mk 3) + 1); let x8 := M_Mk_leavePage (upd (upd mk 3 y7) 4 y6) st; (x8.1, x5, x8.2)) else (let x9 := M_Mk_addList mk x1 st 0; let x10 := M_Mk_addList mk x9 st 1; let x11 := M_Mk_addFineness mk x10 (mk 8); let x12 := M_Mk_addFineness mk x11 (mk 9); let x13 := M_Mk_addDirectory mk x12 st x1.2.2 x10.2.2; let x14 := M_Row_replaceLong x13 (mk 4) x12.2.2.toInt64 (mk 2); let y15 := (x12.2.2 + 122); let y16 := ((mk 3) + 1); let x17 := M_Mk_leavePage (upd (upd mk 3 y16) 4 y15) st; (x17.1, x14, x17.2))
-- PictureFile$PageNumbers.get(II)J
def M_Pn_get (nu : Nat → Int64) (p0 : Int32) (p1 : Int32) : Int64 := if ((p0 * 13) + p1) < 0 then (0) else (if (nI 520) ≤ ((p0 * 13) + p1) then (0) else ((nu ((p0 * 13) + p1).toNatClampNeg)))
-- PictureFile$PageNumbers.set(IIJ)V
def M_Pn_set (nu : Nat → Int64) (p0 : Int32) (p1 : Int32) (p2 : Int64) : (Nat → Int64) := if ((p0 * 13) + p1) < 0 then (nu) else (if (nI 520) ≤ ((p0 * 13) + p1) then (nu) else ((vp_updL nu ((p0 * 13) + p1).toNatClampNeg p2)))
-- PictureFile$PageNumbers.wrongTag(I)I
def M_Pn_wrongTag (nu : Nat → Int64) (p0 : Int32) : Int32 := if (M_PF_isWithin (M_Pn_get nu p0 0) 1 20000) = 0 then (256) else (if (M_PF_isWithin (M_Pn_get nu p0 1) 1 20000) = 0 then (257) else (if (lg_cmp (M_Pn_get nu p0 2) 1) = 0 then (if (M_PF_isWithin (M_Pn_get nu p0 3) 0 1) = 0 then (262) else (if (M_PF_isWithin (M_Pn_get nu p0 4) 1 2) = 0 then (266) else (if (lg_cmp (M_Pn_get nu p0 5) 0) = 0 then (278) else (if (M_PF_isWithin (M_Pn_get nu p0 7) 1 3) = 0 then (296) else (if (lg_cmp (M_Pn_get nu p0 9) 0) = 0 then (282) else (if (lg_cmp (M_Pn_get nu p0 11) 0) = 0 then (283) else (0))))))) else (if (lg_cmp (M_Pn_get nu p0 2) 4) = 0 then (if (M_PF_isWithin (M_Pn_get nu p0 3) 0 1) = 0 then (262) else (if (M_PF_isWithin (M_Pn_get nu p0 4) 1 2) = 0 then (266) else (if (lg_cmp (M_Pn_get nu p0 5) 0) = 0 then (278) else (if (M_PF_isWithin (M_Pn_get nu p0 7) 1 3) = 0 then (296) else (if (lg_cmp (M_Pn_get nu p0 9) 0) = 0 then (282) else (if (lg_cmp (M_Pn_get nu p0 11) 0) = 0 then (283) else (0))))))) else (259))))
-- PictureFile$Entries.forgetAll()V
def M_En_forgetAll (ct : Nat → Int32) : (Nat → Int32) := (fillN ct 41 0)
-- PictureFile$Entries.widestType(I)I
def M_En_widestType (p0 : Int32) : Int32 := if p0 = 256 then (4) else (if p0 = 257 then (4) else (if p0 = 259 then (3) else (if p0 = 262 then (3) else (if p0 = 266 then (3) else (if p0 = 273 then (4) else (if p0 = 278 then (4) else (if p0 = 279 then (4) else (if p0 = 282 then (5) else (if p0 = 283 then (5) else (if p0 = 296 then (3) else (0)))))))))))
-- PictureFile$Entries.canHaveType(II)Z
def M_En_canHaveType (p0 : Int32) (p1 : Int32) : Int32 := if p1 = (M_En_widestType p0) then (1) else (if (M_En_widestType p0) = 4 then (if p1 = 3 then (1) else (0)) else (0))
theorem nb_En_canHaveType (p0 : Int32) (p1 : Int32) : narrow .boolean (.int (M_En_canHaveType p0 p1)) = .int (M_En_canHaveType p0 p1) := by unfold M_En_canHaveType; (try dsimp only); (repeat' split) <;> first | rfl
-- PictureFile$Entries.canHaveCount(IJ)Z
def M_En_canHaveCount (p0 : Int32) (p1 : Int64) : Int32 := if p0 = 273 then ((M_PF_isWithin p1 1 4096)) else (if p0 = 279 then ((M_PF_isWithin p1 1 4096)) else ((M_PF_isWithin p1 1 1)))
theorem nb_En_canHaveCount (p0 : Int32) (p1 : Int64) : narrow .boolean (.int (M_En_canHaveCount p0 p1)) = .int (M_En_canHaveCount p0 p1) := by unfold M_En_canHaveCount; (try dsimp only); (repeat' split) <;> exact nb_PF_isWithin _ _ _
-- PictureFile$Entries.bytesOf(I)I
def M_En_bytesOf (p0 : Int32) : Int32 := if p0 = 3 then (2) else (if p0 = 4 then (4) else (8))
-- PictureFile$Entries.keepEntry(IIII)V
def M_En_keepEntry (ty : Nat → Int32) (ct : Nat → Int32) (pl : Nat → Int32) (p0 : Int32) (p1 : Int32) (p2 : Int32) (p3 : Int32) : (Nat → Int32) × (Nat → Int32) × (Nat → Int32) := if p0 < 0 then ((ty, ct, pl)) else (if 41 ≤ p0 then ((ty, ct, pl)) else (((upd ty p0.toNatClampNeg p1), (upd ct p0.toNatClampNeg p2), (upd pl p0.toNatClampNeg p3))))
-- PictureFile$Entries.take(III)I
def M_En_take (ro : RowS) (ty : Nat → Int32) (ct : Nat → Int32) (pl : Nat → Int32) (p0 : Int32) (p1 : Int32) (p2 : Int32) : Int32 × (Nat → Int32) × (Nat → Int32) × (Nat → Int32) := if (M_En_widestType p1) = 0 then ((0, ty, ct, pl)) else (if (M_En_canHaveType p1 ((M_Row_number ro ((p0 + 2).toInt64) 2 p2).toInt32)) = 0 then ((4, ty, ct, pl)) else (if (M_En_canHaveCount p1 (M_Row_number ro ((p0 + 4).toInt64) 4 p2)) = 0 then ((4, ty, ct, pl)) else (if 0 < (lg_cmp ((M_Row_number ro ((p0 + 4).toInt64) 4 p2) * (M_En_bytesOf ((M_Row_number ro ((p0 + 2).toInt64) 2 p2).toInt32)).toInt64) 4) then (if (lg_cmp ((M_Row_number ro ((p0 + 8).toInt64) 4 p2) + ((M_Row_number ro ((p0 + 4).toInt64) 4 p2) * (M_En_bytesOf ((M_Row_number ro ((p0 + 2).toInt64) 2 p2).toInt32)).toInt64)) ro.2.2.toInt64) ≤ 0 then (let x1 := M_En_keepEntry ty ct pl (p1 - 256) ((M_Row_number ro ((p0 + 2).toInt64) 2 p2).toInt32) ((M_Row_number ro ((p0 + 4).toInt64) 4 p2).toInt32) ((M_Row_number ro ((p0 + 8).toInt64) 4 p2).toInt32); (0, x1.1, x1.2.1, x1.2.2)) else ((5, ty, ct, pl))) else (if (lg_cmp ((p0 + 8).toInt64 + ((M_Row_number ro ((p0 + 4).toInt64) 4 p2) * (M_En_bytesOf ((M_Row_number ro ((p0 + 2).toInt64) 2 p2).toInt32)).toInt64)) ro.2.2.toInt64) ≤ 0 then (let x2 := M_En_keepEntry ty ct pl (p1 - 256) ((M_Row_number ro ((p0 + 2).toInt64) 2 p2).toInt32) ((M_Row_number ro ((p0 + 4).toInt64) 4 p2).toInt32) (((p0 + 8).toInt64).toInt32); (0, x2.1, x2.2.1, x2.2.2)) else ((5, ty, ct, pl))))))
-- PictureFile$Entries.countOf(I)I
def M_En_countOf (ct : Nat → Int32) (p0 : Int32) : Int32 := if (p0 - 256) < 0 then (0) else (if 41 ≤ (p0 - 256) then (0) else ((ct (p0 - 256).toNatClampNeg)))
-- PictureFile$Entries.firstMissing()I
def M_En_firstMissing (ct : Nat → Int32) : Int32 := if (M_En_countOf ct 256) = 0 then (256) else (if (M_En_countOf ct 257) = 0 then (257) else (if (M_En_countOf ct 273) = 0 then (273) else (if (M_En_countOf ct 279) = 0 then (279) else (0))))
-- PictureFile$Entries.number(IIIJ)J
def M_En_number (ro : RowS) (ty : Nat → Int32) (ct : Nat → Int32) (pl : Nat → Int32) (p0 : Int32) (p1 : Int32) (p2 : Int32) (p3 : Int64) : Int64 := if (p0 - 256) < 0 then (p3) else (if 41 ≤ (p0 - 256) then (p3) else (if (ct (p0 - 256).toNatClampNeg) = 0 then (p3) else (if (ty (p0 - 256).toNatClampNeg) = 3 then ((M_Row_number ro ((pl (p0 - 256).toNatClampNeg).toInt64 + ((2 : Int32).toInt64 * p1.toInt64)) 2 p2)) else ((M_Row_number ro ((pl (p0 - 256).toNatClampNeg).toInt64 + ((4 : Int32).toInt64 * p1.toInt64)) 4 p2)))))
-- PictureFile$Reader.hasPage(I)Z
def M_Rd_hasPage (rd : Nat → Int32) (p0 : Int32) : Int32 := if p0 < 0 then (0) else (if (rd 0) ≤ p0 then (0) else (1))
theorem nb_Rd_hasPage (rd : Nat → Int32) (p0 : Int32) : narrow .boolean (.int (M_Rd_hasPage rd p0)) = .int (M_Rd_hasPage rd p0) := by unfold M_Rd_hasPage; (try dsimp only); (repeat' split) <;> first | rfl
-- PictureFile$Reader.hasStrip(II)Z
def M_Rd_hasStrip (rd : Nat → Int32) (nu : Nat → Int64) (p0 : Int32) (p1 : Int32) : Int32 := if (M_Rd_hasPage rd p0) = 0 then (0) else (if p1 < 0 then (0) else (if 0 ≤ (lg_cmp p1.toInt64 (M_Pn_get nu p0 6)) then (0) else (1)))
theorem nb_Rd_hasStrip (rd : Nat → Int32) (nu : Nat → Int64) (p0 : Int32) (p1 : Int32) : narrow .boolean (.int (M_Rd_hasStrip rd nu p0 p1)) = .int (M_Rd_hasStrip rd nu p0 p1) := by unfold M_Rd_hasStrip; (try dsimp only); (repeat' split) <;> first | rfl | exact nb_Rd_hasPage _ _
-- PictureFile$Reader.ofStrip(III)I
def M_Rd_ofStrip (rs : RowS) (fs : Nat → Int32) (p0 : Int32) (p1 : Int32) (p2 : Int32) : Int32 := if p0 < 0 then (0) else (if (nI 40) ≤ p0 then (0) else ((M_St_get rs ((fs p0.toNatClampNeg) + p1) p2)))
-- PictureFile$Reader.faultNumber(I)I
def M_Rd_faultNumber (rd : Nat → Int32) (p0 : Int32) : Int32 := if (rd 3) = 0 then ((-1)) else (if p0 = 0 then ((rd 4)) else (if p0 = 1 then ((rd 5)) else (if p0 = 2 then ((rd 6)) else ((-1)))))
-- PictureFile$Reader.forgetAll()V
def M_Rd_forgetAll (rd : Nat → Int32) (rs : RowS) : (Nat → Int32) × RowS := ((upd (upd (upd (upd rd 0 0) 1 0) 2 0) 3 0), (rs.1, rs.2.1, 0))
-- PictureFile$Reader.refuse(III)Z
def M_Rd_refuse (rd : Nat → Int32) (p0 : Int32) (p1 : Int32) (p2 : Int32) : Int32 × (Nat → Int32) := let y1 := (rd 2); (0, (upd (upd (upd (upd (upd rd 1 0) 3 p0) 4 y1) 5 p1) 6 p2))
-- PictureFile$Reader.takeHead()Z
def M_Rd_takeHead (rd : Nat → Int32) (ro : RowS) : Int32 × (Nat → Int32) := if ro.2.2 < 8 then (let x1 := M_Rd_refuse rd 1 0 0; (x1.1, x1.2)) else (if (M_PF_isOrder (M_Row_at ro 0)) = 0 then (let x2 := M_Rd_refuse rd 1 0 0; (x2.1, x2.2)) else (if (M_Row_at ro 1) = (M_Row_at ro 0) then (if (lg_cmp (M_Row_number ro 2 2 (M_Row_at ro 0)) 42) = 0 then (let y4 := (M_Row_at ro 0); (1, (upd rd 1 y4))) else (let x5 := M_Rd_refuse rd 1 0 0; (x5.1, x5.2))) else (let x3 := M_Rd_refuse rd 1 0 0; (x3.1, x3.2))))
-- PictureFile$Reader.entriesAt(J)I
def M_Rd_entriesAt (rd : Nat → Int32) (ro : RowS) (p0 : Int64) : Int32 := (M_Row_number ro p0 2 (rd 1)).toInt32
-- PictureFile$Reader.linkOf(J)J
def M_Rd_linkOf (rd : Nat → Int32) (ro : RowS) (p0 : Int64) : Int64 := ((p0 + 2) + (12 * (M_Rd_entriesAt rd ro p0)).toInt64)
-- PictureFile$Reader.isDirectory(J)Z
def M_Rd_isDirectory (rd : Nat → Int32) (ro : RowS) (p0 : Int64) : Int32 := if (lg_cmp p0 8) < 0 then (0) else (if (lg_cmp (p0 - p0 / 2 * 2) 0) = 0 then (if (M_Rd_entriesAt rd ro p0) ≤ 0 then (0) else (if 0 < (lg_cmp ((M_Rd_linkOf rd ro p0) + 4) ro.2.2.toInt64) then (0) else (1))) else (0))
theorem nb_Rd_isDirectory (rd : Nat → Int32) (ro : RowS) (p0 : Int64) : narrow .boolean (.int (M_Rd_isDirectory rd ro p0)) = .int (M_Rd_isDirectory rd ro p0) := by unfold M_Rd_isDirectory; (try dsimp only); (repeat' split) <;> first | rfl
-- PictureFile$Reader.takeEntries(I)Z
def L_Rd_takeEntries (rd : Nat → Int32) (ro : RowS) (p0 : Int32) : Nat → Int32 → Int32 → (Nat → Int32) → (Nat → Int32) → (Nat → Int32) → Int32 × (Nat → Int32) × (Nat → Int32) × (Nat → Int32) × (Nat → Int32)
  | 0, _, _, tyL, ctL, plL => (0, rd, tyL, ctL, plL)
  | n + 1, v3, v4, tyL, ctL, plL => if (M_Rd_entriesAt rd ro p0.toInt64) ≤ v4 then ((1, rd, tyL, ctL, plL)) else (if v3 < (M_Row_number ro (((p0 + 2) + (12 * v4)).toInt64) 2 (rd 1)).toInt32 then (let x2 := M_En_take ro tyL ctL plL ((p0 + 2) + (12 * v4)) ((M_Row_number ro (((p0 + 2) + (12 * v4)).toInt64) 2 (rd 1)).toInt32) (rd 1); if x2.1 = 0 then (L_Rd_takeEntries rd ro p0 n ((M_Row_number ro (((p0 + 2) + (12 * v4)).toInt64) 2 (rd 1)).toInt32) (v4 + 1) x2.2.1 x2.2.2.1 x2.2.2.2) else (let x3 := M_Rd_refuse rd x2.1 ((M_Row_number ro (((p0 + 2) + (12 * v4)).toInt64) 2 (rd 1)).toInt32) 0; (x3.1, x3.2, x2.2.1, x2.2.2.1, x2.2.2.2))) else (let x4 := M_Rd_refuse rd 3 ((M_Row_number ro (((p0 + 2) + (12 * v4)).toInt64) 2 (rd 1)).toInt32) 0; (x4.1, x4.2, tyL, ctL, plL)))
def M_Rd_takeEntries (rd : Nat → Int32) (ro : RowS) (ty : Nat → Int32) (ct : Nat → Int32) (pl : Nat → Int32) (p0 : Int32) : Int32 × (Nat → Int32) × (Nat → Int32) × (Nat → Int32) × (Nat → Int32) := let x1 := M_En_forgetAll ct; L_Rd_takeEntries rd ro p0 (((M_Rd_entriesAt rd ro p0.toInt64).toInt - (0 : Int32).toInt).toNat + 1) (-1) 0 ty x1 pl
-- PictureFile$Reader.hasNeededTags()Z
def M_Rd_hasNeededTags (rd : Nat → Int32) (ct : Nat → Int32) : Int32 × (Nat → Int32) := if (M_En_firstMissing ct) = 0 then ((1, rd)) else (let x1 := M_Rd_refuse rd 6 (M_En_firstMissing ct) 0; if x1.1 = 0 then ((0, x1.2)) else ((1, x1.2)))
-- PictureFile$Reader.keep(IJ)V
def M_Rd_keep (rd : Nat → Int32) (nu : Nat → Int64) (p0 : Int32) (p1 : Int64) : (Nat → Int64) := let x1 := M_Pn_set nu (rd 2) p0 p1; x1
-- PictureFile$Reader.takeNumbers(J)Z
def M_Rd_takeNumbers (rd : Nat → Int32) (ro : RowS) (ty : Nat → Int32) (ct : Nat → Int32) (pl : Nat → Int32) (nu : Nat → Int64) (p0 : Int64) : Int32 × (Nat → Int32) × (Nat → Int64) := let x1 := M_Rd_keep rd nu 0 (M_En_number ro ty ct pl 256 0 (rd 1) 0); let x2 := M_Rd_keep rd x1 1 (M_En_number ro ty ct pl 257 0 (rd 1) 0); let x3 := M_Rd_keep rd x2 2 (M_En_number ro ty ct pl 259 0 (rd 1) 1); let x4 := M_Rd_keep rd x3 3 (M_En_number ro ty ct pl 262 0 (rd 1) 0); let x5 := M_Rd_keep rd x4 4 (M_En_number ro ty ct pl 266 0 (rd 1) 1); let x6 := M_Rd_keep rd x5 7 (M_En_number ro ty ct pl 296 0 (rd 1) 2); let x7 := M_Rd_keep rd x6 8 (M_En_number ro ty ct pl 282 0 (rd 1) 300); let x8 := M_Rd_keep rd x7 9 (M_En_number ro ty ct pl 282 1 (rd 1) 1); let x9 := M_Rd_keep rd x8 10 (M_En_number ro ty ct pl 283 0 (rd 1) 300); let x10 := M_Rd_keep rd x9 11 (M_En_number ro ty ct pl 283 1 (rd 1) 1); let x11 := M_Rd_keep rd x10 5 (if (M_Pn_get x10 (rd 2) 1) < (M_En_number ro ty ct pl 278 0 (rd 1) (M_Pn_get x10 (rd 2) 1)) then (M_Pn_get x10 (rd 2) 1) else (M_En_number ro ty ct pl 278 0 (rd 1) (M_Pn_get x10 (rd 2) 1))); let x12 := M_Rd_keep rd x11 6 (M_PF_stripsOf (M_Pn_get x10 (rd 2) 1) (if (M_Pn_get x10 (rd 2) 1) < (M_En_number ro ty ct pl 278 0 (rd 1) (M_Pn_get x10 (rd 2) 1)) then (M_Pn_get x10 (rd 2) 1) else (M_En_number ro ty ct pl 278 0 (rd 1) (M_Pn_get x10 (rd 2) 1)))); let x13 := M_Rd_keep rd x12 12 p0; if (M_Pn_wrongTag x13 (rd 2)) = 0 then ((1, rd, x13)) else (let x14 := M_Rd_refuse rd 7 (M_Pn_wrongTag x13 (rd 2)) 0; if x14.1 = 0 then ((0, x14.2, x13)) else ((1, x14.2, x13)))
-- PictureFile$Reader.wrongCount(I)I
def M_Rd_wrongCount (ct : Nat → Int32) (rs : RowS) (p0 : Int32) : Int32 := if (M_En_countOf ct 273) = p0 then (if (M_En_countOf ct 279) = p0 then (if (rs.2.2 + p0) ≤ 8192 then (0) else (278)) else (279)) else (273)
-- PictureFile$Reader.takeStrips()Z
def L_Rd_takeStrips (rd : Nat → Int32) (ro : RowS) (ty : Nat → Int32) (ct : Nat → Int32) (pl : Nat → Int32) (nu : Nat → Int64) : Nat → Int32 → RowS → (Nat → Int32) → Int32 × (Nat → Int32) × RowS × (Nat → Int32)
  | 0, _, rsL, fsL => (0, rd, rsL, fsL)
  | n + 1, v3, rsL, fsL => if (M_Pn_get nu (rd 2) 6).toInt32 ≤ v3 then ((1, rd, rsL, fsL)) else (if (lg_cmp (M_En_number ro ty ct pl 273 v3 (rd 1) 0) 8) < 0 then (let x7 := M_Rd_refuse rd 9 273 v3; (x7.1, x7.2, rsL, fsL)) else (if (lg_cmp ((M_En_number ro ty ct pl 273 v3 (rd 1) 0) + (M_En_number ro ty ct pl 279 v3 (rd 1) 0)) ro.2.2.toInt64) ≤ 0 then (let x8 := M_St_add 8192 rsL ((M_En_number ro ty ct pl 273 v3 (rd 1) 0).toInt32) ((M_En_number ro ty ct pl 279 v3 (rd 1) 0).toInt32); L_Rd_takeStrips rd ro ty ct pl nu n (v3 + 1) x8 fsL) else (let x9 := M_Rd_refuse rd 9 273 v3; (x9.1, x9.2, rsL, fsL))))
def M_Rd_takeStrips (rd : Nat → Int32) (ro : RowS) (ty : Nat → Int32) (ct : Nat → Int32) (pl : Nat → Int32) (nu : Nat → Int64) (rs : RowS) (fs : Nat → Int32) : Int32 × (Nat → Int32) × RowS × (Nat → Int32) := if (M_Rd_wrongCount ct rs ((M_Pn_get nu (rd 2) 6).toInt32)) = 0 then (if (rd 2) < 0 then (L_Rd_takeStrips rd ro ty ct pl nu ((((M_Pn_get nu (rd 2) 6).toInt32).toInt - (0 : Int32).toInt).toNat + 1) 0 rs fs) else (if (nI 40) ≤ (rd 2) then (L_Rd_takeStrips rd ro ty ct pl nu ((((M_Pn_get nu (rd 2) 6).toInt32).toInt - (0 : Int32).toInt).toNat + 1) 0 rs fs) else (L_Rd_takeStrips rd ro ty ct pl nu ((((M_Pn_get nu (rd 2) 6).toInt32).toInt - (0 : Int32).toInt).toNat + 1) 0 rs (upd fs (rd 2).toNatClampNeg rs.2.2)))) else (let x10 := M_Rd_refuse rd 8 (M_Rd_wrongCount ct rs ((M_Pn_get nu (rd 2) 6).toInt32)) 0; (x10.1, x10.2, rs, fs))
-- PictureFile$Reader.takePage(J)Z
def M_Rd_takePage (rd : Nat → Int32) (ro : RowS) (ty : Nat → Int32) (ct : Nat → Int32) (pl : Nat → Int32) (nu : Nat → Int64) (rs : RowS) (fs : Nat → Int32) (p0 : Int64) : Int32 × (Nat → Int32) × (Nat → Int32) × (Nat → Int32) × (Nat → Int32) × (Nat → Int64) × RowS × (Nat → Int32) := if 40 ≤ (rd 2) then (let x1 := M_Rd_refuse rd 2 0 0; (x1.1, x1.2, ty, ct, pl, nu, rs, fs)) else (if (M_Rd_isDirectory rd ro p0) = 0 then (let x6 := M_Rd_refuse rd 2 0 0; (x6.1, x6.2, ty, ct, pl, nu, rs, fs)) else (let x2 := M_Rd_takeEntries rd ro ty ct pl p0.toInt32; if x2.1 = 0 then ((0, x2.2.1, x2.2.2.1, x2.2.2.2.1, x2.2.2.2.2, nu, rs, fs)) else (let x3 := M_Rd_hasNeededTags x2.2.1 x2.2.2.2.1; if x3.1 = 0 then ((0, x3.2, x2.2.2.1, x2.2.2.2.1, x2.2.2.2.2, nu, rs, fs)) else (let x4 := M_Rd_takeNumbers x3.2 ro x2.2.2.1 x2.2.2.2.1 x2.2.2.2.2 nu p0; if x4.1 = 0 then ((0, x4.2.1, x2.2.2.1, x2.2.2.2.1, x2.2.2.2.2, x4.2.2, rs, fs)) else (let x5 := M_Rd_takeStrips x4.2.1 ro x2.2.2.1 x2.2.2.2.1 x2.2.2.2.2 x4.2.2 rs fs; if x5.1 = 0 then ((0, x5.2.1, x2.2.2.1, x2.2.2.2.1, x2.2.2.2.2, x4.2.2, x5.2.2.1, x5.2.2.2)) else ((1, x5.2.1, x2.2.2.1, x2.2.2.2.1, x2.2.2.2.2, x4.2.2, x5.2.2.1, x5.2.2.2)))))))
-- PictureFile$Reader.goThrough()V
def L_Rd_goThrough (ro : RowS) : Nat → Int64 → Int32 → (Nat → Int32) → (Nat → Int32) → (Nat → Int32) → (Nat → Int32) → (Nat → Int64) → RowS → (Nat → Int32) → (Nat → Int32) × (Nat → Int32) × (Nat → Int32) × (Nat → Int32) × (Nat → Int64) × RowS × (Nat → Int32)
  | 0, _, _, rdL, tyL, ctL, plL, nuL, rsL, fsL => (rdL, tyL, ctL, plL, nuL, rsL, fsL)
  | n + 1, v1, v3, rdL, tyL, ctL, plL, nuL, rsL, fsL => if 40 < v3 then (let y3 := ((rdL 2) + 1); ((upd rdL 0 y3), tyL, ctL, plL, nuL, rsL, fsL)) else (if v3 = 0 then (let x4 := M_Rd_takePage (upd rdL 2 v3) ro tyL ctL plL nuL rsL fsL v1; if x4.1 = 0 then ((x4.2.1, x4.2.2.1, x4.2.2.2.1, x4.2.2.2.2.1, x4.2.2.2.2.2.1, x4.2.2.2.2.2.2.1, x4.2.2.2.2.2.2.2)) else (L_Rd_goThrough ro n (M_Row_number ro (M_Rd_linkOf x4.2.1 ro v1) 4 (x4.2.1 1)) (v3 + 1) x4.2.1 x4.2.2.1 x4.2.2.2.1 x4.2.2.2.2.1 x4.2.2.2.2.2.1 x4.2.2.2.2.2.2.1 x4.2.2.2.2.2.2.2)) else (if (lg_cmp v1 0) = 0 then (let y5 := ((rdL 2) + 1); ((upd rdL 0 y5), tyL, ctL, plL, nuL, rsL, fsL)) else (let x6 := M_Rd_takePage (upd rdL 2 v3) ro tyL ctL plL nuL rsL fsL v1; if x6.1 = 0 then ((x6.2.1, x6.2.2.1, x6.2.2.2.1, x6.2.2.2.2.1, x6.2.2.2.2.2.1, x6.2.2.2.2.2.2.1, x6.2.2.2.2.2.2.2)) else (L_Rd_goThrough ro n (M_Row_number ro (M_Rd_linkOf x6.2.1 ro v1) 4 (x6.2.1 1)) (v3 + 1) x6.2.1 x6.2.2.1 x6.2.2.2.1 x6.2.2.2.2.1 x6.2.2.2.2.2.1 x6.2.2.2.2.2.2.1 x6.2.2.2.2.2.2.2))))
def M_Rd_goThrough (rd : Nat → Int32) (ro : RowS) (ty : Nat → Int32) (ct : Nat → Int32) (pl : Nat → Int32) (nu : Nat → Int64) (rs : RowS) (fs : Nat → Int32) : (Nat → Int32) × (Nat → Int32) × (Nat → Int32) × (Nat → Int32) × (Nat → Int64) × RowS × (Nat → Int32) := let x1 := M_Rd_forgetAll rd rs; let x2 := M_Rd_takeHead x1.1 ro; if x2.1 = 0 then ((x2.2, ty, ct, pl, nu, x1.2, fs)) else (L_Rd_goThrough ro (((41 : Int32).toInt - (0 : Int32).toInt).toNat + 1) (M_Row_number ro 4 4 (x2.2 1)) 0 x2.2 ty ct pl nu x1.2 fs)
-- PictureFile.give(JI)Z
def M_PF_give (mk : Nat → Int32) (ro : RowS) (p0 : Int64) (p1 : Int32) : Int32 × RowS := if (mk 0) = 0 then (if (M_PF_isPartLength p1) = 0 then ((0, ro)) else (if (ro.2.2 + p1) ≤ 65536 then (let x1 := M_Row_append ro p0 p1 77; (1, x1)) else ((0, ro)))) else ((0, ro))
-- PictureFile.poke(II)Z
def M_PF_poke (mk : Nat → Int32) (ro : RowS) (p0 : Int32) (p1 : Int32) : Int32 × RowS := if (mk 0) = 0 then (if p0 < 0 then ((0, ro)) else (if p0 < ro.2.2 then (let x1 := M_Row_replace ro p0 p1; (1, x1)) else ((0, ro)))) else ((0, ro))
-- PictureFile.cut(I)Z
def M_PF_cut (mk : Nat → Int32) (ro : RowS) (p0 : Int32) : Int32 × RowS := if (mk 0) = 0 then (if p0 < 0 then ((0, ro)) else (if p0 ≤ ro.2.2 then ((1, (ro.1, ro.2.1, p0))) else ((0, ro)))) else ((0, ro))
-- PictureFile.bytes(I)J
def M_PF_bytes (ro : RowS) (p0 : Int32) : Int64 := (M_Row_number ro (8 * p0.toInt64) 8 77)
-- PictureFile.put(JI)Z
def M_PF_put (mk : Nat → Int32) (ro : RowS) (st : RowS) (p0 : Int64) (p1 : Int32) : Int32 × (Nat → Int32) × RowS := if (M_PF_isPartLength p1) = 0 then ((0, mk, ro)) else (if (M_Mk_stripsToCome mk st) = 0 then ((0, mk, ro)) else (if (M_Mk_hasRoomFor mk ro p1) = 0 then ((0, mk, ro)) else (let x1 := M_Mk_addToStrip mk ro p0 p1; (1, x1.1, x1.2))))
-- PictureFile.fault(I)I
def M_PF_fault (rd : Nat → Int32) (p0 : Int32) : Int32 := (M_Rd_faultNumber rd p0)
-- PictureFile.look(I)I
def M_PF_look (mk : Nat → Int32) (ro : RowS) (st : RowS) (rd : Nat → Int32) (p0 : Int32) : Int32 := if p0 = 0 then (ro.2.2) else (if p0 = 1 then (if (mk 0) = 0 then (0) else (1)) else (if p0 = 2 then (if (mk 1) = 0 then (0) else (1)) else (if p0 = 3 then ((mk 3)) else (if p0 = 4 then ((M_Mk_stripsToCome mk st)) else (if p0 = 5 then ((mk 11)) else (if p0 = 6 then ((rd 0)) else (if p0 = 7 then ((rd 1)) else ((-1)))))))))
-- PictureFileModel.thrown()I
def M_Md_thrown (md : Nat → Int32) : Int32 := (md 0)
-- PictureFileModel.at(I)I
def G_Md_at (p0 : Int32) : Prop := (vp_in p0 65536)
def M_Md_at (bf : Nat → Int32) (p0 : Int32) : Int32 := ((bf p0.toNatClampNeg) &&& 255)
-- PictureFileModel.one(I)V
def G_Md_one (sz : Int32) : Prop := (vp_in sz 65536)
def M_Md_one (sz : Int32) (bf : Nat → Int32) (p0 : Int32) : Int32 × (Nat → Int32) := let y1 := (sz + 1); (y1, (upd bf sz.toNatClampNeg (vp_nar .byte p0.toInt8.toInt32)))
-- PictureFileModel.two(I)V
def G_Md_two (md : Nat → Int32) (sz : Int32) (bf : Nat → Int32) (p0 : Int32) : Prop := (if (md 3) = 77 then ((G_Md_one sz) ∧ ∀ x3, x3 = M_Md_one sz bf (p0 >>> ((8 : Int32) &&& 31)) → (G_Md_one x3.1)) else ((G_Md_one sz) ∧ ∀ x1, x1 = M_Md_one sz bf p0 → (G_Md_one x1.1)))
def M_Md_two (md : Nat → Int32) (sz : Int32) (bf : Nat → Int32) (p0 : Int32) : Int32 × (Nat → Int32) := if (md 3) = 77 then (let x3 := M_Md_one sz bf (p0 >>> ((8 : Int32) &&& 31)); let x4 := M_Md_one x3.1 x3.2 p0; (x4.1, x4.2)) else (let x1 := M_Md_one sz bf p0; let x2 := M_Md_one x1.1 x1.2 (p0 >>> ((8 : Int32) &&& 31)); (x2.1, x2.2))
-- PictureFileModel.four(I)V
def G_Md_four (md : Nat → Int32) (sz : Int32) (bf : Nat → Int32) (p0 : Int32) : Prop := (if (md 3) = 77 then ((G_Md_two md sz bf (p0 >>> ((16 : Int32) &&& 31))) ∧ ∀ x3, x3 = M_Md_two md sz bf (p0 >>> ((16 : Int32) &&& 31)) → (G_Md_two md x3.1 x3.2 p0)) else ((G_Md_two md sz bf p0) ∧ ∀ x1, x1 = M_Md_two md sz bf p0 → (G_Md_two md x1.1 x1.2 (p0 >>> ((16 : Int32) &&& 31)))))
def M_Md_four (md : Nat → Int32) (sz : Int32) (bf : Nat → Int32) (p0 : Int32) : Int32 × (Nat → Int32) := if (md 3) = 77 then (let x3 := M_Md_two md sz bf (p0 >>> ((16 : Int32) &&& 31)); let x4 := M_Md_two md x3.1 x3.2 p0; (x4.1, x4.2)) else (let x1 := M_Md_two md sz bf p0; let x2 := M_Md_two md x1.1 x1.2 (p0 >>> ((16 : Int32) &&& 31)); (x2.1, x2.2))
-- PictureFileModel.fourAt(II)V
def G_Md_fourAt (md : Nat → Int32) (bf : Nat → Int32) (p0 : Int32) (p1 : Int32) : Prop := (G_Md_four md p0 bf p1)
def M_Md_fourAt (md : Nat → Int32) (bf : Nat → Int32) (p0 : Int32) (p1 : Int32) : (Nat → Int32) := let x1 := M_Md_four md p0 bf p1; x1.2
-- PictureFileModel.begin(I)V
def G_Md_begin (md : Nat → Int32) (bf : Nat → Int32) (p0 : Int32) : Prop := (if p0 = 73 then ((G_Md_one 0) ∧ ∀ x1, x1 = M_Md_one 0 bf p0 → (G_Md_one x1.1) ∧ ∀ x2, x2 = M_Md_one x1.1 x1.2 p0 → (G_Md_two (upd (upd md 0 0) 3 p0) x2.1 x2.2 42) ∧ ∀ x3, x3 = M_Md_two (upd (upd md 0 0) 3 p0) x2.1 x2.2 42 → (G_Md_four (upd (upd md 0 0) 3 p0) x3.1 x3.2 0)) else ((if p0 = 77 then ((G_Md_one 0) ∧ ∀ x5, x5 = M_Md_one 0 bf p0 → (G_Md_one x5.1) ∧ ∀ x6, x6 = M_Md_one x5.1 x5.2 p0 → (G_Md_two (upd (upd md 0 0) 3 p0) x6.1 x6.2 42) ∧ ∀ x7, x7 = M_Md_two (upd (upd md 0 0) 3 p0) x6.1 x6.2 42 → (G_Md_four (upd (upd md 0 0) 3 p0) x7.1 x7.2 0)) else (True))))
def M_Md_begin (md : Nat → Int32) (sz : Int32) (bf : Nat → Int32) (p0 : Int32) : (Nat → Int32) × Int32 × (Nat → Int32) := if p0 = 73 then (let x1 := M_Md_one 0 bf p0; let x2 := M_Md_one x1.1 x1.2 p0; let x3 := M_Md_two (upd (upd md 0 0) 3 p0) x2.1 x2.2 42; let x4 := M_Md_four (upd (upd md 0 0) 3 p0) x3.1 x3.2 0; ((upd (upd (upd (upd (upd (upd md 0 0) 1 1) 2 0) 3 p0) 4 0) 5 4), x4.1, x4.2)) else (if p0 = 77 then (let x5 := M_Md_one 0 bf p0; let x6 := M_Md_one x5.1 x5.2 p0; let x7 := M_Md_two (upd (upd md 0 0) 3 p0) x6.1 x6.2 42; let x8 := M_Md_four (upd (upd md 0 0) 3 p0) x7.1 x7.2 0; ((upd (upd (upd (upd (upd (upd md 0 0) 1 1) 2 0) 3 p0) 4 0) 5 4), x8.1, x8.2)) else (((upd md 0 1), sz, bf)))
-- PictureFileModel.page(IIIII)I
def G_Md_page (md : Nat → Int32) (p0 : Int32) (p1 : Int32) (p2 : Int32) (p3 : Int32) (p4 : Int32) : Prop := (if (md 1) = 0 then (True) else ((if (md 2) = 0 then ((if (md 4) = 40 then (True) else ((if p0 < 1 then (True) else ((if 20000 < p0 then (True) else ((if p1 < 1 then (True) else ((if 20000 < p1 then (True) else ((if p2 < 1 then (True) else ((if p1 < p2 then (True) else ((if p3 < 1 then (True) else ((if 10000 < p3 then (True) else ((if p4 < 1 then (True) else ((if 10000 < p4 then (True) else ((¬ p2 = 0)))))))))))))))))))))))) else (True))))
def M_Md_page (md : Nat → Int32) (p0 : Int32) (p1 : Int32) (p2 : Int32) (p3 : Int32) (p4 : Int32) : Int32 × (Nat → Int32) := if (md 1) = 0 then ((0, (upd md 0 1))) else (if (md 2) = 0 then (if (md 4) = 40 then ((0, (upd md 0 1))) else (if p0 < 1 then ((0, (upd md 0 2))) else (if 20000 < p0 then ((0, (upd md 0 2))) else (if p1 < 1 then ((0, (upd md 0 2))) else (if 20000 < p1 then ((0, (upd md 0 2))) else (if p2 < 1 then ((0, (upd md 0 2))) else (if p1 < p2 then ((0, (upd md 0 2))) else (if p3 < 1 then ((0, (upd md 0 2))) else (if 10000 < p3 then ((0, (upd md 0 2))) else (if p4 < 1 then ((0, (upd md 0 2))) else (if 10000 < p4 then ((0, (upd md 0 2))) else (let y1 := (((p1 + p2) - 1) / p2); if y1 ≤ 512 then ((y1, (upd (upd (upd (upd (upd (upd (upd (upd (upd (upd md 0 0) 2 1) 6 p0) 7 p1) 8 p2) 9 p3) 10 p4) 11 y1) 12 0) 13 0))) else ((0, (upd md 0 2))))))))))))))) else ((0, (upd md 0 1))))
-- PictureFileModel.start()V
def G_Md_start (sz : Int32) : Prop := (if (sz - sz / 2 * 2) = 1 then ((G_Md_one sz)) else (True))
def M_Md_start (sz : Int32) (bf : Nat → Int32) : Int32 × Int32 × (Nat → Int32) := if (sz - sz / 2 * 2) = 1 then (let x1 := M_Md_one sz bf 0; (x1.1, x1.1, x1.2)) else ((sz, sz, bf))
-- PictureFileModel.give(JI)Z
def L_Md_give (md : Nat → Int32) (p0 : Int64) : Nat → Int32 → Int32 → (Nat → Int32) → Int32 × (Nat → Int32) × Int32 × (Nat → Int32)
  | 0, _, szL, bfL => (0, md, szL, bfL)
  | n + 1, v4, szL, bfL => if v4 < 0 then ((1, (upd md 0 0), szL, bfL)) else (let x2 := M_Md_one szL bfL (((p0 >>> ((8 * v4).toInt64 &&& 63)) &&& 255).toInt32); L_Md_give md p0 n (v4 + (-1)) x2.1 x2.2)
def GL_Md_give (md : Nat → Int32) (p0 : Int64) : Nat → Int32 → Int32 → (Nat → Int32) → Prop
  | 0, _, _, _ => False
  | n + 1, v4, szL, bfL => (if v4 < 0 then (True) else ((G_Md_one szL) ∧ ∀ x2, x2 = M_Md_one szL bfL (((p0 >>> ((8 * v4).toInt64 &&& 63)) &&& 255).toInt32) → GL_Md_give md p0 n (v4 + (-1)) x2.1 x2.2))
def G_Md_give (md : Nat → Int32) (sz : Int32) (bf : Nat → Int32) (p0 : Int64) (p1 : Int32) : Prop := (if (md 1) = 0 then ((if p1 < 1 then (True) else ((if 8 < p1 then (True) else ((if (sz + p1) ≤ 65536 then (∀ y1, y1 = (p1 - 1) → GL_Md_give md p0 ((y1.toInt + 1).toNat + 1) y1 sz bf) else (True))))))) else (True))
def M_Md_give (md : Nat → Int32) (sz : Int32) (bf : Nat → Int32) (p0 : Int64) (p1 : Int32) : Int32 × (Nat → Int32) × Int32 × (Nat → Int32) := if (md 1) = 0 then (if p1 < 1 then ((0, (upd md 0 0), sz, bf)) else (if 8 < p1 then ((0, (upd md 0 0), sz, bf)) else (if (sz + p1) ≤ 65536 then (let y1 := (p1 - 1); L_Md_give md p0 ((y1.toInt + 1).toNat + 1) y1 sz bf) else ((0, (upd md 0 0), sz, bf))))) else ((0, (upd md 0 0), sz, bf))
-- PictureFileModel.poke(II)Z
def G_Md_poke (md : Nat → Int32) (sz : Int32) (p0 : Int32) : Prop := (if (md 1) = 0 then ((if p0 < 0 then (True) else ((if p0 < sz then ((vp_in p0 65536)) else (True))))) else (True))
def M_Md_poke (md : Nat → Int32) (sz : Int32) (bf : Nat → Int32) (p0 : Int32) (p1 : Int32) : Int32 × (Nat → Int32) × (Nat → Int32) := if (md 1) = 0 then (if p0 < 0 then ((0, (upd md 0 0), bf)) else (if p0 < sz then ((1, (upd md 0 0), (upd bf p0.toNatClampNeg (vp_nar .byte p1.toInt8.toInt32)))) else ((0, (upd md 0 0), bf)))) else ((0, (upd md 0 0), bf))
-- PictureFileModel.cut(I)Z
def M_Md_cut (md : Nat → Int32) (sz : Int32) (p0 : Int32) : Int32 × (Nat → Int32) × Int32 := if (md 1) = 0 then (if p0 < 0 then ((0, (upd md 0 0), sz)) else (if p0 ≤ sz then ((1, (upd md 0 0), p0)) else ((0, (upd md 0 0), sz)))) else ((0, (upd md 0 0), sz))
-- PictureFileModel.bytes(I)J
def L_Md_bytes (md : Nat → Int32) (sz : Int32) (bf : Nat → Int32) (p0 : Int32) : Nat → Int32 → Int64 → Int64 × (Nat → Int32)
  | 0, _, _ => (0, md)
  | n + 1, v4, v2 => if 8 ≤ v4 then ((v2, (upd md 0 0))) else (if p0 < 0 then (let y1 := ((v2 <<< ((8 : Int32).toInt64 &&& 63)) ||| (0 : Int32).toInt64); L_Md_bytes md sz bf p0 n (v4 + 1) y1) else (if 8192 ≤ p0 then (let y2 := ((v2 <<< ((8 : Int32).toInt64 &&& 63)) ||| (0 : Int32).toInt64); L_Md_bytes md sz bf p0 n (v4 + 1) y2) else (if sz ≤ ((8 * p0) + v4) then (let y3 := ((v2 <<< ((8 : Int32).toInt64 &&& 63)) ||| (0 : Int32).toInt64); L_Md_bytes md sz bf p0 n (v4 + 1) y3) else (let y4 := ((v2 <<< ((8 : Int32).toInt64 &&& 63)) ||| (M_Md_at bf ((8 * p0) + v4)).toInt64); L_Md_bytes md sz bf p0 n (v4 + 1) y4))))
def GL_Md_bytes (md : Nat → Int32) (sz : Int32) (bf : Nat → Int32) (p0 : Int32) : Nat → Int32 → Int64 → Prop
  | 0, _, _ => False
  | n + 1, v4, v2 => (if 8 ≤ v4 then (True) else ((if p0 < 0 then (∀ y1, y1 = ((v2 <<< ((8 : Int32).toInt64 &&& 63)) ||| (0 : Int32).toInt64) → GL_Md_bytes md sz bf p0 n (v4 + 1) y1) else ((if 8192 ≤ p0 then (∀ y2, y2 = ((v2 <<< ((8 : Int32).toInt64 &&& 63)) ||| (0 : Int32).toInt64) → GL_Md_bytes md sz bf p0 n (v4 + 1) y2) else ((if sz ≤ ((8 * p0) + v4) then (∀ y3, y3 = ((v2 <<< ((8 : Int32).toInt64 &&& 63)) ||| (0 : Int32).toInt64) → GL_Md_bytes md sz bf p0 n (v4 + 1) y3) else ((G_Md_at ((8 * p0) + v4)) ∧ ∀ y4, y4 = ((v2 <<< ((8 : Int32).toInt64 &&& 63)) ||| (M_Md_at bf ((8 * p0) + v4)).toInt64) → GL_Md_bytes md sz bf p0 n (v4 + 1) y4))))))))
def G_Md_bytes (md : Nat → Int32) (sz : Int32) (bf : Nat → Int32) (p0 : Int32) : Prop := GL_Md_bytes md sz bf p0 (((8 : Int32).toInt - (0 : Int32).toInt).toNat + 1) 0 0
def M_Md_bytes (md : Nat → Int32) (sz : Int32) (bf : Nat → Int32) (p0 : Int32) : Int64 × (Nat → Int32) := L_Md_bytes md sz bf p0 (((8 : Int32).toInt - (0 : Int32).toInt).toNat + 1) 0 0
-- PictureFileModel.put(JI)Z
def L_Md_put (p0 : Int64) (p1 : Int32) : Nat → Int32 → (Nat → Int32) → Int32 → Int32 → (Nat → Int32) → Int32 × (Nat → Int32) × Int32 × Int32 × (Nat → Int32)
  | 0, _, mdL, szL, frL, bfL => (0, mdL, szL, frL, bfL)
  | n + 1, v5, mdL, szL, frL, bfL => if v5 < 0 then (let y1 := ((mdL 13) + p1); (1, (upd mdL 13 y1), szL, frL, bfL)) else (let x2 := M_Md_one szL bfL (((p0 >>> ((8 * v5).toInt64 &&& 63)) &&& 255).toInt32); L_Md_put p0 p1 n (v5 + (-1)) mdL x2.1 frL x2.2)
def GL_Md_put (p0 : Int64) (p1 : Int32) : Nat → Int32 → (Nat → Int32) → Int32 → Int32 → (Nat → Int32) → Prop
  | 0, _, _, _, _, _ => False
  | n + 1, v5, mdL, szL, frL, bfL => (if v5 < 0 then (True) else ((G_Md_one szL) ∧ ∀ x2, x2 = M_Md_one szL bfL (((p0 >>> ((8 * v5).toInt64 &&& 63)) &&& 255).toInt32) → GL_Md_put p0 p1 n (v5 + (-1)) mdL x2.1 frL x2.2))
def G_Md_put (md : Nat → Int32) (sz : Int32) (fr : Int32) (bf : Nat → Int32) (p0 : Int64) (p1 : Int32) : Prop := (if p1 < 1 then (True) else ((if 8 < p1 then (True) else ((if (md 2) = 0 then (True) else ((if (md 12) = (md 11) then (True) else ((if (md 13) = 0 then (∀ y4, y4 = (sz - sz / 2 * 2) → (if ((sz + y4) + p1) ≤ 60000 then ((G_Md_start sz) ∧ ∀ x5, x5 = M_Md_start sz bf → ∀ y6, y6 = (p1 - 1) → GL_Md_put p0 p1 ((y6.toInt + 1).toNat + 1) y6 (upd md 0 0) x5.1 x5.2.1 x5.2.2) else (True))) else ((if ((sz + 0) + p1) ≤ 60000 then (∀ y3, y3 = (p1 - 1) → GL_Md_put p0 p1 ((y3.toInt + 1).toNat + 1) y3 (upd md 0 0) sz fr bf) else (True))))))))))))
def M_Md_put (md : Nat → Int32) (sz : Int32) (fr : Int32) (bf : Nat → Int32) (p0 : Int64) (p1 : Int32) : Int32 × (Nat → Int32) × Int32 × Int32 × (Nat → Int32) := if p1 < 1 then ((0, (upd md 0 0), sz, fr, bf)) else (if 8 < p1 then ((0, (upd md 0 0), sz, fr, bf)) else (if (md 2) = 0 then ((0, (upd md 0 0), sz, fr, bf)) else (if (md 12) = (md 11) then ((0, (upd md 0 0), sz, fr, bf)) else (if (md 13) = 0 then (let y4 := (sz - sz / 2 * 2); if ((sz + y4) + p1) ≤ 60000 then (let x5 := M_Md_start sz bf; let y6 := (p1 - 1); L_Md_put p0 p1 ((y6.toInt + 1).toNat + 1) y6 (upd md 0 0) x5.1 x5.2.1 x5.2.2) else ((0, (upd md 0 0), sz, fr, bf))) else (if ((sz + 0) + p1) ≤ 60000 then (let y3 := (p1 - 1); L_Md_put p0 p1 ((y3.toInt + 1).toNat + 1) y3 (upd md 0 0) sz fr bf) else ((0, (upd md 0 0), sz, fr, bf)))))))
-- PictureFileModel.strip()I
def G_Md_strip (md : Nat → Int32) (sz : Int32) (bf : Nat → Int32) : Prop := (if (md 2) = 0 then (True) else ((if (md 12) = (md 11) then (True) else ((if (md 13) = 0 then ((G_Md_start sz) ∧ ∀ x2, x2 = M_Md_start sz bf → (vp_in (md 12) 512) ∧ (vp_in (md 12) 512)) else ((vp_in (md 12) 512) ∧ (vp_in (md 12) 512)))))))
def M_Md_strip (md : Nat → Int32) (sz : Int32) (fr : Int32) (bf : Nat → Int32) (mp : Nat → Int32) (ml : Nat → Int32) : Int32 × (Nat → Int32) × Int32 × Int32 × (Nat → Int32) × (Nat → Int32) × (Nat → Int32) := if (md 2) = 0 then ((0, (upd md 0 1), sz, fr, bf, mp, ml)) else (if (md 12) = (md 11) then ((0, (upd md 0 1), sz, fr, bf, mp, ml)) else (if (md 13) = 0 then (let x2 := M_Md_start sz bf; let y3 := ((md 12) + 1); (((md 11) - y3), (upd (upd (upd md 0 0) 12 y3) 13 0), x2.1, x2.2.1, x2.2.2, (upd mp (md 12).toNatClampNeg x2.2.1), (upd ml (md 12).toNatClampNeg (md 13)))) else (let y1 := ((md 12) + 1); (((md 11) - y1), (upd (upd (upd md 0 0) 12 y1) 13 0), sz, fr, bf, (upd mp (md 12).toNatClampNeg fr), (upd ml (md 12).toNatClampNeg (md 13))))))
-- PictureFileModel.entryOf(IIII)V
def G_Md_entryOf (md : Nat → Int32) (sz : Int32) (bf : Nat → Int32) (p0 : Int32) (p1 : Int32) (p2 : Int32) (p3 : Int32) : Prop := (G_Md_two md sz bf p0) ∧ ∀ x1, x1 = M_Md_two md sz bf p0 → (G_Md_two md x1.1 x1.2 p1) ∧ ∀ x2, x2 = M_Md_two md x1.1 x1.2 p1 → (G_Md_four md x2.1 x2.2 p2) ∧ ∀ x3, x3 = M_Md_four md x2.1 x2.2 p2 → (if p1 = 3 then ((G_Md_two md x3.1 x3.2 p3) ∧ ∀ x5, x5 = M_Md_two md x3.1 x3.2 p3 → (G_Md_two md x5.1 x5.2 0)) else ((G_Md_four md x3.1 x3.2 p3)))
def M_Md_entryOf (md : Nat → Int32) (sz : Int32) (bf : Nat → Int32) (p0 : Int32) (p1 : Int32) (p2 : Int32) (p3 : Int32) : Int32 × (Nat → Int32) := let x1 := M_Md_two md sz bf p0; let x2 := M_Md_two md x1.1 x1.2 p1; let x3 := M_Md_four md x2.1 x2.2 p2; if p1 = 3 then (let x5 := M_Md_two md x3.1 x3.2 p3; let x6 := M_Md_two md x5.1 x5.2 0; (x6.1, x6.2)) else (let x4 := M_Md_four md x3.1 x3.2 p3; (x4.1, x4.2))
-- PictureFileModel.close()I
def K_Md_close_391  (v1 : Int32) (v3 : Int32) (mdL : Nat → Int32) (szL : Int32) (bfL : Nat → Int32) : Int32 × (Nat → Int32) × Int32 × (Nat → Int32) := let x1 := M_Md_four (upd mdL 5 szL) szL bfL 0; let y2 := ((mdL 4) + 1); (x1.1, (upd (upd (upd mdL 2 0) 4 y2) 5 szL), x1.1, x1.2)
def K_Md_close_358  (v1 : Int32) (v3 : Int32) (mdL : Nat → Int32) (szL : Int32) (bfL : Nat → Int32) : Int32 × (Nat → Int32) × Int32 × (Nat → Int32) := let x3 := M_Md_entryOf mdL szL bfL 282 5 1 v3; let x4 := M_Md_entryOf mdL x3.1 x3.2 283 5 1 (v3 + 8); let x5 := M_Md_entryOf mdL x4.1 x4.2 296 3 1 2; K_Md_close_391  v1 v3 mdL x5.1 x5.2
def K_Md_close_321 (ml : Nat → Int32) (v1 : Int32) (v3 : Int32) (mdL : Nat → Int32) (szL : Int32) (bfL : Nat → Int32) : Int32 × (Nat → Int32) × Int32 × (Nat → Int32) := if (mdL 11) ≤ 1 then (let x6 := M_Md_entryOf mdL szL bfL 279 4 (mdL 11) (ml (0 : Int32).toNatClampNeg); K_Md_close_358  v1 v3 mdL x6.1 x6.2) else (let x7 := M_Md_entryOf mdL szL bfL 279 4 (mdL 11) (v1 + (4 * (mdL 11))); K_Md_close_358  v1 v3 mdL x7.1 x7.2)
def K_Md_close_308 (ml : Nat → Int32) (v1 : Int32) (v3 : Int32) (mdL : Nat → Int32) (szL : Int32) (bfL : Nat → Int32) : Int32 × (Nat → Int32) × Int32 × (Nat → Int32) := let x8 := M_Md_entryOf mdL szL bfL 278 4 1 (mdL 8); K_Md_close_321 ml  v1 v3 mdL x8.1 x8.2
def K_Md_close_278 (mp : Nat → Int32) (ml : Nat → Int32) (v1 : Int32) (v3 : Int32) (mdL : Nat → Int32) (szL : Int32) (bfL : Nat → Int32) : Int32 × (Nat → Int32) × Int32 × (Nat → Int32) := if (mdL 11) ≤ 1 then (let x9 := M_Md_entryOf mdL szL bfL 273 4 (mdL 11) (mp (0 : Int32).toNatClampNeg); K_Md_close_308 ml  v1 v3 mdL x9.1 x9.2) else (let x10 := M_Md_entryOf mdL szL bfL 273 4 (mdL 11) v1; K_Md_close_308 ml  v1 v3 mdL x10.1 x10.2)
def K_Md_close_258 (mp : Nat → Int32) (ml : Nat → Int32) (v1 : Int32) (v3 : Int32) (mdL : Nat → Int32) (szL : Int32) (bfL : Nat → Int32) : Int32 × (Nat → Int32) × Int32 × (Nat → Int32) := let x11 := M_Md_entryOf mdL szL bfL 259 3 1 4; let x12 := M_Md_entryOf mdL x11.1 x11.2 262 3 1 0; K_Md_close_278 mp ml  v1 v3 mdL x12.1 x12.2
def K_Md_close_232 (mp : Nat → Int32) (ml : Nat → Int32) (v1 : Int32) (v3 : Int32) (mdL : Nat → Int32) (szL : Int32) (bfL : Nat → Int32) : Int32 × (Nat → Int32) × Int32 × (Nat → Int32) := let x13 := M_Md_entryOf mdL szL bfL 256 4 1 (mdL 6); let x14 := M_Md_entryOf mdL x13.1 x13.2 257 4 1 (mdL 7); K_Md_close_258 mp ml  v1 v3 mdL x14.1 x14.2
def K_Md_close_214 (mp : Nat → Int32) (ml : Nat → Int32) (v1 : Int32) (v3 : Int32) (mdL : Nat → Int32) (szL : Int32) (bfL : Nat → Int32) : Int32 × (Nat → Int32) × Int32 × (Nat → Int32) := let x15 := M_Md_fourAt mdL bfL (mdL 5) szL; let x16 := M_Md_two mdL szL x15 10; K_Md_close_232 mp ml  v1 v3 mdL x16.1 x16.2
def K_Md_close_183 (mp : Nat → Int32) (ml : Nat → Int32) (v1 : Int32) (mdL : Nat → Int32) (szL : Int32) (bfL : Nat → Int32) : Int32 × (Nat → Int32) × Int32 × (Nat → Int32) := let x17 := M_Md_four mdL szL bfL (mdL 9); let x18 := M_Md_four mdL x17.1 x17.2 1; let x19 := M_Md_four mdL x18.1 x18.2 (mdL 10); let x20 := M_Md_four mdL x19.1 x19.2 1; K_Md_close_214 mp ml  v1 szL mdL x20.1 x20.2
def L_Md_close_151 (mp : Nat → Int32) (ml : Nat → Int32) : Nat → Int32 → Int32 → (Nat → Int32) → Int32 → (Nat → Int32) → Int32 × (Nat → Int32) × Int32 × (Nat → Int32)
  | 0, _, _, mdL, szL, bfL => (0, mdL, szL, bfL)
  | n + 1, v1, v3, mdL, szL, bfL => if (mdL 11) ≤ v3 then (K_Md_close_183 mp ml  v1 mdL szL bfL) else (if (mdL 11) ≤ 1 then (K_Md_close_183 mp ml  v1 mdL szL bfL) else (let x21 := M_Md_four mdL szL bfL (ml v3.toNatClampNeg); L_Md_close_151 mp ml n v1 (v3 + 1) mdL x21.1 x21.2))
def L_Md_close_117 (mp : Nat → Int32) (ml : Nat → Int32) : Nat → Int32 → Int32 → (Nat → Int32) → Int32 → (Nat → Int32) → Int32 × (Nat → Int32) × Int32 × (Nat → Int32)
  | 0, _, _, mdL, szL, bfL => (0, mdL, szL, bfL)
  | n + 1, v1, v3, mdL, szL, bfL => if (mdL 11) ≤ v3 then (L_Md_close_151 mp ml (((mdL 11).toInt - (0 : Int32).toInt).toNat + 1) v1 0 mdL szL bfL) else (if (mdL 11) ≤ 1 then (L_Md_close_151 mp ml (((mdL 11).toInt - (0 : Int32).toInt).toNat + 1) v1 0 mdL szL bfL) else (let x22 := M_Md_four mdL szL bfL (mp v3.toNatClampNeg); L_Md_close_117 mp ml n v1 (v3 + 1) mdL x22.1 x22.2))
def GK_Md_close_391  (v1 : Int32) (v3 : Int32) (mdL : Nat → Int32) (szL : Int32) (bfL : Nat → Int32) : Prop := (G_Md_four (upd mdL 5 szL) szL bfL 0)
def GK_Md_close_358  (v1 : Int32) (v3 : Int32) (mdL : Nat → Int32) (szL : Int32) (bfL : Nat → Int32) : Prop := (G_Md_entryOf mdL szL bfL 282 5 1 v3) ∧ ∀ x3, x3 = M_Md_entryOf mdL szL bfL 282 5 1 v3 → (G_Md_entryOf mdL x3.1 x3.2 283 5 1 (v3 + 8)) ∧ ∀ x4, x4 = M_Md_entryOf mdL x3.1 x3.2 283 5 1 (v3 + 8) → (G_Md_entryOf mdL x4.1 x4.2 296 3 1 2) ∧ ∀ x5, x5 = M_Md_entryOf mdL x4.1 x4.2 296 3 1 2 → GK_Md_close_391  v1 v3 mdL x5.1 x5.2
def GK_Md_close_321 (ml : Nat → Int32) (v1 : Int32) (v3 : Int32) (mdL : Nat → Int32) (szL : Int32) (bfL : Nat → Int32) : Prop := (if (mdL 11) ≤ 1 then ((vp_in 0 512) ∧ (G_Md_entryOf mdL szL bfL 279 4 (mdL 11) (ml (0 : Int32).toNatClampNeg)) ∧ ∀ x6, x6 = M_Md_entryOf mdL szL bfL 279 4 (mdL 11) (ml (0 : Int32).toNatClampNeg) → GK_Md_close_358  v1 v3 mdL x6.1 x6.2) else ((G_Md_entryOf mdL szL bfL 279 4 (mdL 11) (v1 + (4 * (mdL 11)))) ∧ ∀ x7, x7 = M_Md_entryOf mdL szL bfL 279 4 (mdL 11) (v1 + (4 * (mdL 11))) → GK_Md_close_358  v1 v3 mdL x7.1 x7.2))
def GK_Md_close_308 (ml : Nat → Int32) (v1 : Int32) (v3 : Int32) (mdL : Nat → Int32) (szL : Int32) (bfL : Nat → Int32) : Prop := (G_Md_entryOf mdL szL bfL 278 4 1 (mdL 8)) ∧ ∀ x8, x8 = M_Md_entryOf mdL szL bfL 278 4 1 (mdL 8) → GK_Md_close_321 ml  v1 v3 mdL x8.1 x8.2
def GK_Md_close_278 (mp : Nat → Int32) (ml : Nat → Int32) (v1 : Int32) (v3 : Int32) (mdL : Nat → Int32) (szL : Int32) (bfL : Nat → Int32) : Prop := (if (mdL 11) ≤ 1 then ((vp_in 0 512) ∧ (G_Md_entryOf mdL szL bfL 273 4 (mdL 11) (mp (0 : Int32).toNatClampNeg)) ∧ ∀ x9, x9 = M_Md_entryOf mdL szL bfL 273 4 (mdL 11) (mp (0 : Int32).toNatClampNeg) → GK_Md_close_308 ml  v1 v3 mdL x9.1 x9.2) else ((G_Md_entryOf mdL szL bfL 273 4 (mdL 11) v1) ∧ ∀ x10, x10 = M_Md_entryOf mdL szL bfL 273 4 (mdL 11) v1 → GK_Md_close_308 ml  v1 v3 mdL x10.1 x10.2))
def GK_Md_close_258 (mp : Nat → Int32) (ml : Nat → Int32) (v1 : Int32) (v3 : Int32) (mdL : Nat → Int32) (szL : Int32) (bfL : Nat → Int32) : Prop := (G_Md_entryOf mdL szL bfL 259 3 1 4) ∧ ∀ x11, x11 = M_Md_entryOf mdL szL bfL 259 3 1 4 → (G_Md_entryOf mdL x11.1 x11.2 262 3 1 0) ∧ ∀ x12, x12 = M_Md_entryOf mdL x11.1 x11.2 262 3 1 0 → GK_Md_close_278 mp ml  v1 v3 mdL x12.1 x12.2
def GK_Md_close_232 (mp : Nat → Int32) (ml : Nat → Int32) (v1 : Int32) (v3 : Int32) (mdL : Nat → Int32) (szL : Int32) (bfL : Nat → Int32) : Prop := (G_Md_entryOf mdL szL bfL 256 4 1 (mdL 6)) ∧ ∀ x13, x13 = M_Md_entryOf mdL szL bfL 256 4 1 (mdL 6) → (G_Md_entryOf mdL x13.1 x13.2 257 4 1 (mdL 7)) ∧ ∀ x14, x14 = M_Md_entryOf mdL x13.1 x13.2 257 4 1 (mdL 7) → GK_Md_close_258 mp ml  v1 v3 mdL x14.1 x14.2
def GK_Md_close_214 (mp : Nat → Int32) (ml : Nat → Int32) (v1 : Int32) (v3 : Int32) (mdL : Nat → Int32) (szL : Int32) (bfL : Nat → Int32) : Prop := (G_Md_fourAt mdL bfL (mdL 5) szL) ∧ ∀ x15, x15 = M_Md_fourAt mdL bfL (mdL 5) szL → (G_Md_two mdL szL x15 10) ∧ ∀ x16, x16 = M_Md_two mdL szL x15 10 → GK_Md_close_232 mp ml  v1 v3 mdL x16.1 x16.2
def GK_Md_close_183 (mp : Nat → Int32) (ml : Nat → Int32) (v1 : Int32) (mdL : Nat → Int32) (szL : Int32) (bfL : Nat → Int32) : Prop := (G_Md_four mdL szL bfL (mdL 9)) ∧ ∀ x17, x17 = M_Md_four mdL szL bfL (mdL 9) → (G_Md_four mdL x17.1 x17.2 1) ∧ ∀ x18, x18 = M_Md_four mdL x17.1 x17.2 1 → (G_Md_four mdL x18.1 x18.2 (mdL 10)) ∧ ∀ x19, x19 = M_Md_four mdL x18.1 x18.2 (mdL 10) → (G_Md_four mdL x19.1 x19.2 1) ∧ ∀ x20, x20 = M_Md_four mdL x19.1 x19.2 1 → GK_Md_close_214 mp ml  v1 szL mdL x20.1 x20.2
def GL_Md_close_151 (mp : Nat → Int32) (ml : Nat → Int32) : Nat → Int32 → Int32 → (Nat → Int32) → Int32 → (Nat → Int32) → Prop
  | 0, _, _, _, _, _ => False
  | n + 1, v1, v3, mdL, szL, bfL => (if (mdL 11) ≤ v3 then (GK_Md_close_183 mp ml  v1 mdL szL bfL) else ((if (mdL 11) ≤ 1 then (GK_Md_close_183 mp ml  v1 mdL szL bfL) else ((vp_in v3 512) ∧ (G_Md_four mdL szL bfL (ml v3.toNatClampNeg)) ∧ ∀ x21, x21 = M_Md_four mdL szL bfL (ml v3.toNatClampNeg) → GL_Md_close_151 mp ml n v1 (v3 + 1) mdL x21.1 x21.2))))
def GL_Md_close_117 (mp : Nat → Int32) (ml : Nat → Int32) : Nat → Int32 → Int32 → (Nat → Int32) → Int32 → (Nat → Int32) → Prop
  | 0, _, _, _, _, _ => False
  | n + 1, v1, v3, mdL, szL, bfL => (if (mdL 11) ≤ v3 then (GL_Md_close_151 mp ml (((mdL 11).toInt - (0 : Int32).toInt).toNat + 1) v1 0 mdL szL bfL) else ((if (mdL 11) ≤ 1 then (GL_Md_close_151 mp ml (((mdL 11).toInt - (0 : Int32).toInt).toNat + 1) v1 0 mdL szL bfL) else ((vp_in v3 512) ∧ (G_Md_four mdL szL bfL (mp v3.toNatClampNeg)) ∧ ∀ x22, x22 = M_Md_four mdL szL bfL (mp v3.toNatClampNeg) → GL_Md_close_117 mp ml n v1 (v3 + 1) mdL x22.1 x22.2))))
def G_Md_close (md : Nat → Int32) (sz : Int32) (bf : Nat → Int32) (mp : Nat → Int32) (ml : Nat → Int32) : Prop := (if (md 2) = 0 then (True) else ((if (md 11) ≤ (md 12) then (∀ y23, y23 = (sz + (sz - sz / 2 * 2)) → (if (md 11) ≤ 1 then ((if (((y23 + 0) + 16) + 126) ≤ 65536 then ((if (sz - sz / 2 * 2) = 1 then ((G_Md_one sz) ∧ ∀ x24, x24 = M_Md_one sz bf 0 → GL_Md_close_117 mp ml ((((upd md 0 0) 11).toInt - (0 : Int32).toInt).toNat + 1) y23 0 (upd md 0 0) x24.1 x24.2) else (GL_Md_close_117 mp ml ((((upd md 0 0) 11).toInt - (0 : Int32).toInt).toNat + 1) y23 0 (upd md 0 0) sz bf))) else (True))) else (∀ y25, y25 = (8 * (md 11)) → (if (((y23 + y25) + 16) + 126) ≤ 65536 then ((if (sz - sz / 2 * 2) = 1 then ((G_Md_one sz) ∧ ∀ x26, x26 = M_Md_one sz bf 0 → GL_Md_close_117 mp ml ((((upd md 0 0) 11).toInt - (0 : Int32).toInt).toNat + 1) y23 0 (upd md 0 0) x26.1 x26.2) else (GL_Md_close_117 mp ml ((((upd md 0 0) 11).toInt - (0 : Int32).toInt).toNat + 1) y23 0 (upd md 0 0) sz bf))) else (True))))) else (True))))
def M_Md_close (md : Nat → Int32) (sz : Int32) (bf : Nat → Int32) (mp : Nat → Int32) (ml : Nat → Int32) : Int32 × (Nat → Int32) × Int32 × (Nat → Int32) := if (md 2) = 0 then ((0, (upd md 0 1), sz, bf)) else (if (md 11) ≤ (md 12) then (let y23 := (sz + (sz - sz / 2 * 2)); if (md 11) ≤ 1 then (if (((y23 + 0) + 16) + 126) ≤ 65536 then (if (sz - sz / 2 * 2) = 1 then (let x24 := M_Md_one sz bf 0; L_Md_close_117 mp ml ((((upd md 0 0) 11).toInt - (0 : Int32).toInt).toNat + 1) y23 0 (upd md 0 0) x24.1 x24.2) else (L_Md_close_117 mp ml ((((upd md 0 0) 11).toInt - (0 : Int32).toInt).toNat + 1) y23 0 (upd md 0 0) sz bf)) else ((0, (upd md 0 1), sz, bf))) else (let y25 := (8 * (md 11)); if (((y23 + y25) + 16) + 126) ≤ 65536 then (if (sz - sz / 2 * 2) = 1 then (let x26 := M_Md_one sz bf 0; L_Md_close_117 mp ml ((((upd md 0 0) 11).toInt - (0 : Int32).toInt).toNat + 1) y23 0 (upd md 0 0) x26.1 x26.2) else (L_Md_close_117 mp ml ((((upd md 0 0) 11).toInt - (0 : Int32).toInt).toNat + 1) y23 0 (upd md 0 0) sz bf)) else ((0, (upd md 0 1), sz, bf)))) else ((0, (upd md 0 1), sz, bf)))
-- PictureFileModel.end()I
def M_Md_end (md : Nat → Int32) : Int32 × (Nat → Int32) := if (md 1) = 0 then ((0, (upd md 0 1))) else (if (md 2) = 0 then (((md 4), (upd (upd md 0 0) 1 0))) else ((0, (upd md 0 1))))
-- PictureFileModel.readTwo(I)I
def G_Md_readTwo (md : Nat → Int32) (p0 : Int32) : Prop := (if (md 14) = 77 then ((G_Md_at p0) ∧ (G_Md_at (p0 + 1))) else ((G_Md_at p0) ∧ (G_Md_at (p0 + 1))))
def M_Md_readTwo (md : Nat → Int32) (bf : Nat → Int32) (p0 : Int32) : Int32 := if (md 14) = 77 then (((256 * (M_Md_at bf p0)) + (M_Md_at bf (p0 + 1)))) else (((M_Md_at bf p0) + (256 * (M_Md_at bf (p0 + 1)))))
-- PictureFileModel.readFour(I)J
def G_Md_readFour (md : Nat → Int32) (bf : Nat → Int32) (p0 : Int32) : Prop := (G_Md_readTwo md p0) ∧ ∀ y1, y1 = (M_Md_readTwo md bf p0).toInt64 → (G_Md_readTwo md (p0 + 2))
def M_Md_readFour (md : Nat → Int32) (bf : Nat → Int32) (p0 : Int32) : Int64 := let y1 := (M_Md_readTwo md bf p0).toInt64; let y2 := (M_Md_readTwo md bf (p0 + 2)).toInt64; if (md 14) = 77 then (((65536 * y1) + y2)) else ((y1 + (65536 * y2)))
-- PictureFileModel.known(I)I
def M_Md_known (p0 : Int32) : Int32 := if p0 = 256 then (0) else (if p0 = 257 then (1) else (if p0 = 259 then (2) else (if p0 = 262 then (3) else (if p0 = 266 then (4) else (if p0 = 273 then (9) else (if p0 = 278 then (5) else (if p0 = 279 then (10) else (if p0 = 282 then (7) else (if p0 = 283 then (8) else (if p0 = 296 then (6) else ((-1))))))))))))
-- PictureFileModel.wrong(IIII)Z
def M_Md_wrong (md : Nat → Int32) (p0 : Int32) (p1 : Int32) (p2 : Int32) (p3 : Int32) : Int32 × (Nat → Int32) := (0, (upd (upd (upd (upd md 16 p0) 17 p1) 18 p2) 19 p3))
-- PictureFileModel.sizeOf(I)I
def M_Md_sizeOf (p0 : Int32) : Int32 := if p0 = 3 then (2) else (if p0 = 4 then (4) else (8))
-- PictureFileModel.sound(III)Z
def K_Md_sound_144 (md : Nat → Int32) (sz : Int32) (bf : Nat → Int32) (p0 : Int32) (p1 : Int32) (p2 : Int32) (v5 : Int32) (v6 : Int64) (v9 : Int32) (v10 : Int32)  : Int32 × (Nat → Int32) := if v9 = 0 then (let x1 := M_Md_wrong md 4 p0 p2 0; (x1.1, x1.2)) else (if v10 = 0 then (let x4 := M_Md_wrong md 4 p0 p2 0; (x4.1, x4.2)) else (let y2 := (v6 * (M_Md_sizeOf v5).toInt64); if (lg_cmp y2 4) ≤ 0 then ((1, md)) else (if (lg_cmp ((M_Md_readFour md bf (p1 + 8)) + y2) sz.toInt64) ≤ 0 then ((1, md)) else (let x3 := M_Md_wrong md 5 p0 p2 0; if x3.1 = 0 then ((0, x3.2)) else ((1, x3.2))))))
def K_Md_sound_107 (md : Nat → Int32) (sz : Int32) (bf : Nat → Int32) (p0 : Int32) (p1 : Int32) (p2 : Int32) (v4 : Int32) (v5 : Int32) (v6 : Int64) (v9 : Int32)  : Int32 × (Nat → Int32) := if (lg_cmp v6 1) < 0 then (K_Md_sound_144 md sz bf p0 p1 p2  v5 v6 v9 0) else (if 0 < (lg_cmp v6 4096) then (K_Md_sound_144 md sz bf p0 p1 p2  v5 v6 v9 0) else (if 8 < v4 then (K_Md_sound_144 md sz bf p0 p1 p2  v5 v6 v9 1) else (if (lg_cmp v6 1) = 0 then (K_Md_sound_144 md sz bf p0 p1 p2  v5 v6 v9 1) else (K_Md_sound_144 md sz bf p0 p1 p2  v5 v6 v9 0))))
def K_Md_sound_55 (md : Nat → Int32) (sz : Int32) (bf : Nat → Int32) (p0 : Int32) (p1 : Int32) (p2 : Int32) (v4 : Int32) (v5 : Int32) (v6 : Int64) (v8 : Int32)  : Int32 × (Nat → Int32) := if v4 = 7 then (if v5 = 5 then (K_Md_sound_107 md sz bf p0 p1 p2  v4 v5 v6 1) else (K_Md_sound_107 md sz bf p0 p1 p2  v4 v5 v6 0)) else (if v4 = 8 then (if v5 = 5 then (K_Md_sound_107 md sz bf p0 p1 p2  v4 v5 v6 1) else (K_Md_sound_107 md sz bf p0 p1 p2  v4 v5 v6 0)) else (if v5 = 3 then (K_Md_sound_107 md sz bf p0 p1 p2  v4 v5 v6 1) else (if v8 = 0 then (K_Md_sound_107 md sz bf p0 p1 p2  v4 v5 v6 0) else (if v5 = 4 then (K_Md_sound_107 md sz bf p0 p1 p2  v4 v5 v6 1) else (K_Md_sound_107 md sz bf p0 p1 p2  v4 v5 v6 0)))))
def GK_Md_sound_144 (md : Nat → Int32) (sz : Int32) (bf : Nat → Int32) (p0 : Int32) (p1 : Int32) (p2 : Int32) (v5 : Int32) (v6 : Int64) (v9 : Int32) (v10 : Int32)  : Prop := (if v9 = 0 then (True) else ((if v10 = 0 then (True) else (∀ y2, y2 = (v6 * (M_Md_sizeOf v5).toInt64) → (if (lg_cmp y2 4) ≤ 0 then (True) else ((G_Md_readFour md bf (p1 + 8))))))))
def GK_Md_sound_107 (md : Nat → Int32) (sz : Int32) (bf : Nat → Int32) (p0 : Int32) (p1 : Int32) (p2 : Int32) (v4 : Int32) (v5 : Int32) (v6 : Int64) (v9 : Int32)  : Prop := (if (lg_cmp v6 1) < 0 then (GK_Md_sound_144 md sz bf p0 p1 p2  v5 v6 v9 0) else ((if 0 < (lg_cmp v6 4096) then (GK_Md_sound_144 md sz bf p0 p1 p2  v5 v6 v9 0) else ((if 8 < v4 then (GK_Md_sound_144 md sz bf p0 p1 p2  v5 v6 v9 1) else ((if (lg_cmp v6 1) = 0 then (GK_Md_sound_144 md sz bf p0 p1 p2  v5 v6 v9 1) else (GK_Md_sound_144 md sz bf p0 p1 p2  v5 v6 v9 0))))))))
def GK_Md_sound_55 (md : Nat → Int32) (sz : Int32) (bf : Nat → Int32) (p0 : Int32) (p1 : Int32) (p2 : Int32) (v4 : Int32) (v5 : Int32) (v6 : Int64) (v8 : Int32)  : Prop := (if v4 = 7 then ((if v5 = 5 then (GK_Md_sound_107 md sz bf p0 p1 p2  v4 v5 v6 1) else (GK_Md_sound_107 md sz bf p0 p1 p2  v4 v5 v6 0))) else ((if v4 = 8 then ((if v5 = 5 then (GK_Md_sound_107 md sz bf p0 p1 p2  v4 v5 v6 1) else (GK_Md_sound_107 md sz bf p0 p1 p2  v4 v5 v6 0))) else ((if v5 = 3 then (GK_Md_sound_107 md sz bf p0 p1 p2  v4 v5 v6 1) else ((if v8 = 0 then (GK_Md_sound_107 md sz bf p0 p1 p2  v4 v5 v6 0) else ((if v5 = 4 then (GK_Md_sound_107 md sz bf p0 p1 p2  v4 v5 v6 1) else (GK_Md_sound_107 md sz bf p0 p1 p2  v4 v5 v6 0))))))))))
def G_Md_sound (md : Nat → Int32) (sz : Int32) (bf : Nat → Int32) (p0 : Int32) (p1 : Int32) (p2 : Int32) : Prop := ∀ y5, y5 = (M_Md_known p2) → (G_Md_readTwo md (p1 + 2)) ∧ ∀ y6, y6 = (M_Md_readTwo md bf (p1 + 2)) → (G_Md_readFour md bf (p1 + 4)) ∧ ∀ y7, y7 = (M_Md_readFour md bf (p1 + 4)) → (if y5 = 0 then (GK_Md_sound_55 md sz bf p0 p1 p2  y5 y6 y7 1) else ((if y5 = 1 then (GK_Md_sound_55 md sz bf p0 p1 p2  y5 y6 y7 1) else ((if y5 = 5 then (GK_Md_sound_55 md sz bf p0 p1 p2  y5 y6 y7 1) else ((if y5 ≤ 8 then (GK_Md_sound_55 md sz bf p0 p1 p2  y5 y6 y7 0) else (GK_Md_sound_55 md sz bf p0 p1 p2  y5 y6 y7 1))))))))
def M_Md_sound (md : Nat → Int32) (sz : Int32) (bf : Nat → Int32) (p0 : Int32) (p1 : Int32) (p2 : Int32) : Int32 × (Nat → Int32) := let y5 := (M_Md_known p2); let y6 := (M_Md_readTwo md bf (p1 + 2)); let y7 := (M_Md_readFour md bf (p1 + 4)); if y5 = 0 then (K_Md_sound_55 md sz bf p0 p1 p2  y5 y6 y7 1) else (if y5 = 1 then (K_Md_sound_55 md sz bf p0 p1 p2  y5 y6 y7 1) else (if y5 = 5 then (K_Md_sound_55 md sz bf p0 p1 p2  y5 y6 y7 1) else (if y5 ≤ 8 then (K_Md_sound_55 md sz bf p0 p1 p2  y5 y6 y7 0) else (K_Md_sound_55 md sz bf p0 p1 p2  y5 y6 y7 1))))
-- PictureFileModel.value(II)J
def G_Md_value (md : Nat → Int32) (bf : Nat → Int32) (et : Nat → Int32) (p0 : Int32) (p1 : Int32) : Prop := (vp_in p0 11) ∧ ∀ y1, y1 = (et p0.toNatClampNeg) → (G_Md_readTwo md (y1 + 2)) ∧ ∀ y2, y2 = (M_Md_readTwo md bf (y1 + 2)) → (G_Md_readFour md bf (y1 + 4)) ∧ ∀ y3, y3 = (M_Md_readFour md bf (y1 + 4)) → (if 0 < (lg_cmp (y3 * (M_Md_sizeOf y2).toInt64) 4) then ((G_Md_readFour md bf (y1 + 8)) ∧ ∀ y4, y4 = (M_Md_readFour md bf (y1 + 8)).toInt32 → (if y2 = 3 then ((G_Md_readTwo md (y4 + (2 * p1)))) else ((G_Md_readFour md bf (y4 + (4 * p1)))))) else (∀ y5, y5 = (y1 + 8) → (if y2 = 3 then ((G_Md_readTwo md (y5 + (2 * p1)))) else ((G_Md_readFour md bf (y5 + (4 * p1)))))))
def M_Md_value (md : Nat → Int32) (bf : Nat → Int32) (et : Nat → Int32) (p0 : Int32) (p1 : Int32) : Int64 := let y1 := (et p0.toNatClampNeg); let y2 := (M_Md_readTwo md bf (y1 + 2)); let y3 := (M_Md_readFour md bf (y1 + 4)); if 0 < (lg_cmp (y3 * (M_Md_sizeOf y2).toInt64) 4) then (let y4 := (M_Md_readFour md bf (y1 + 8)).toInt32; if y2 = 3 then ((M_Md_readTwo md bf (y4 + (2 * p1))).toInt64) else ((M_Md_readFour md bf (y4 + (4 * p1))))) else (let y5 := (y1 + 8); if y2 = 3 then ((M_Md_readTwo md bf (y5 + (2 * p1))).toInt64) else ((M_Md_readFour md bf (y5 + (4 * p1)))))
-- PictureFileModel.valueOr(IIJ)J
def G_Md_valueOr (md : Nat → Int32) (bf : Nat → Int32) (et : Nat → Int32) (p0 : Int32) (p1 : Int32) : Prop := (vp_in p0 11) ∧ (if 0 ≤ (et p0.toNatClampNeg) then ((G_Md_value md bf et p0 p1)) else (True))
def M_Md_valueOr (md : Nat → Int32) (bf : Nat → Int32) (et : Nat → Int32) (p0 : Int32) (p1 : Int32) (p2 : Int64) : Int64 := if 0 ≤ (et p0.toNatClampNeg) then ((M_Md_value md bf et p0 p1)) else (p2)
-- PictureFileModel.entries(II)Z
def L_Md_entries_33 (sz : Int32) (bf : Nat → Int32) (p0 : Int32) (p1 : Int32) : Nat → Int32 → Int32 → Int32 → (Nat → Int32) → (Nat → Int32) → Int32 × (Nat → Int32) × (Nat → Int32)
  | 0, _, _, _, mdL, etL => (0, mdL, etL)
  | n + 1, v3, v4, v5, mdL, etL => if v4 ≤ v5 then ((1, mdL, etL)) else (let y1 := ((p1 + 2) + (12 * v5)); let y2 := (M_Md_readTwo mdL bf y1); if v3 < y2 then (if (M_Md_known y2) < 0 then (L_Md_entries_33 sz bf p0 p1 n y2 v4 (v5 + 1) mdL etL) else (let x3 := M_Md_sound mdL sz bf p0 y1 y2; if x3.1 = 0 then ((0, x3.2, etL)) else (L_Md_entries_33 sz bf p0 p1 n y2 v4 (v5 + 1) x3.2 (upd etL (M_Md_known y2).toNatClampNeg y1)))) else (let x4 := M_Md_wrong mdL 3 p0 y2 0; (x4.1, x4.2, etL)))
def L_Md_entries_2 (md : Nat → Int32) (sz : Int32) (bf : Nat → Int32) (p0 : Int32) (p1 : Int32) : Nat → Int32 → (Nat → Int32) → Int32 × (Nat → Int32) × (Nat → Int32)
  | 0, _, etL => (0, md, etL)
  | n + 1, v3, etL => if 11 ≤ v3 then (let y5 := (M_Md_readTwo md bf p1); L_Md_entries_33 sz bf p0 p1 ((y5.toInt - (0 : Int32).toInt).toNat + 1) (-1) y5 0 md etL) else (L_Md_entries_2 md sz bf p0 p1 n (v3 + 1) (upd etL v3.toNatClampNeg (-1)))
def GL_Md_entries_33 (sz : Int32) (bf : Nat → Int32) (p0 : Int32) (p1 : Int32) : Nat → Int32 → Int32 → Int32 → (Nat → Int32) → (Nat → Int32) → Prop
  | 0, _, _, _, _, _ => False
  | n + 1, v3, v4, v5, mdL, etL => (if v4 ≤ v5 then (True) else (∀ y1, y1 = ((p1 + 2) + (12 * v5)) → (G_Md_readTwo mdL y1) ∧ ∀ y2, y2 = (M_Md_readTwo mdL bf y1) → (if v3 < y2 then ((if (M_Md_known y2) < 0 then (GL_Md_entries_33 sz bf p0 p1 n y2 v4 (v5 + 1) mdL etL) else ((G_Md_sound mdL sz bf p0 y1 y2) ∧ ∀ x3, x3 = M_Md_sound mdL sz bf p0 y1 y2 → (if x3.1 = 0 then (True) else ((vp_in (M_Md_known y2) 11) ∧ GL_Md_entries_33 sz bf p0 p1 n y2 v4 (v5 + 1) x3.2 (upd etL (M_Md_known y2).toNatClampNeg y1)))))) else (True))))
def GL_Md_entries_2 (md : Nat → Int32) (sz : Int32) (bf : Nat → Int32) (p0 : Int32) (p1 : Int32) : Nat → Int32 → (Nat → Int32) → Prop
  | 0, _, _ => False
  | n + 1, v3, etL => (if 11 ≤ v3 then ((G_Md_readTwo md p1) ∧ ∀ y5, y5 = (M_Md_readTwo md bf p1) → GL_Md_entries_33 sz bf p0 p1 ((y5.toInt - (0 : Int32).toInt).toNat + 1) (-1) y5 0 md etL) else ((vp_in v3 11) ∧ GL_Md_entries_2 md sz bf p0 p1 n (v3 + 1) (upd etL v3.toNatClampNeg (-1))))
def G_Md_entries (md : Nat → Int32) (sz : Int32) (bf : Nat → Int32) (et : Nat → Int32) (p0 : Int32) (p1 : Int32) : Prop := GL_Md_entries_2 md sz bf p0 p1 (((11 : Int32).toInt - (0 : Int32).toInt).toNat + 1) 0 et
def M_Md_entries (md : Nat → Int32) (sz : Int32) (bf : Nat → Int32) (et : Nat → Int32) (p0 : Int32) (p1 : Int32) : Int32 × (Nat → Int32) × (Nat → Int32) := L_Md_entries_2 md sz bf p0 p1 (((11 : Int32).toInt - (0 : Int32).toInt).toNat + 1) 0 et
-- PictureFileModel.stripsOf(II)Z
def L_Md_stripsOf (md : Nat → Int32) (sz : Int32) (bf : Nat → Int32) (mf : Nat → Int32) (et : Nat → Int32) (p0 : Int32) (p1 : Int32) : Nat → Int32 → (Nat → Int32) → (Nat → Int32) → Int32 × (Nat → Int32) × (Nat → Int32) × (Nat → Int32) × (Nat → Int32)
  | 0, _, spL, slL => (0, md, mf, spL, slL)
  | n + 1, v3, spL, slL => if p1 ≤ v3 then ((1, md, (upd mf (p0 + 1).toNatClampNeg ((mf p0.toNatClampNeg) + p1)), spL, slL)) else (let y1 := (M_Md_value md bf et 9 v3); let y2 := (M_Md_value md bf et 10 v3); if (lg_cmp y1 8) < 0 then (let x3 := M_Md_wrong md 9 p0 273 v3; (x3.1, x3.2, mf, spL, slL)) else (if (lg_cmp (y1 + y2) sz.toInt64) ≤ 0 then (L_Md_stripsOf md sz bf mf et p0 p1 n (v3 + 1) (upd spL ((mf p0.toNatClampNeg) + v3).toNatClampNeg y1.toInt32) (upd slL ((mf p0.toNatClampNeg) + v3).toNatClampNeg y2.toInt32)) else (let x4 := M_Md_wrong md 9 p0 273 v3; (x4.1, x4.2, mf, spL, slL))))
def GL_Md_stripsOf (md : Nat → Int32) (sz : Int32) (bf : Nat → Int32) (mf : Nat → Int32) (et : Nat → Int32) (p0 : Int32) (p1 : Int32) : Nat → Int32 → (Nat → Int32) → (Nat → Int32) → Prop
  | 0, _, _, _ => False
  | n + 1, v3, spL, slL => (if p1 ≤ v3 then ((vp_in p0 41) ∧ (vp_in (p0 + 1) 41)) else ((G_Md_value md bf et 9 v3) ∧ ∀ y1, y1 = (M_Md_value md bf et 9 v3) → (G_Md_value md bf et 10 v3) ∧ ∀ y2, y2 = (M_Md_value md bf et 10 v3) → (if (lg_cmp y1 8) < 0 then (True) else ((if (lg_cmp (y1 + y2) sz.toInt64) ≤ 0 then ((vp_in p0 41) ∧ (vp_in ((mf p0.toNatClampNeg) + v3) 8192) ∧ (vp_in p0 41) ∧ (vp_in ((mf p0.toNatClampNeg) + v3) 8192) ∧ GL_Md_stripsOf md sz bf mf et p0 p1 n (v3 + 1) (upd spL ((mf p0.toNatClampNeg) + v3).toNatClampNeg y1.toInt32) (upd slL ((mf p0.toNatClampNeg) + v3).toNatClampNeg y2.toInt32)) else (True))))))
def G_Md_stripsOf (md : Nat → Int32) (sz : Int32) (bf : Nat → Int32) (mf : Nat → Int32) (sp : Nat → Int32) (sl : Nat → Int32) (et : Nat → Int32) (p0 : Int32) (p1 : Int32) : Prop := GL_Md_stripsOf md sz bf mf et p0 p1 ((p1.toInt - (0 : Int32).toInt).toNat + 1) 0 sp sl
def M_Md_stripsOf (md : Nat → Int32) (sz : Int32) (bf : Nat → Int32) (mf : Nat → Int32) (sp : Nat → Int32) (sl : Nat → Int32) (et : Nat → Int32) (p0 : Int32) (p1 : Int32) : Int32 × (Nat → Int32) × (Nat → Int32) × (Nat → Int32) × (Nat → Int32) := L_Md_stripsOf md sz bf mf et p0 p1 ((p1.toInt - (0 : Int32).toInt).toNat + 1) 0 sp sl
-- PictureFileModel.values(I)Z
def K_Md_values_530 (md : Nat → Int32) (sz : Int32) (bf : Nat → Int32) (mf : Nat → Int32) (sp : Nat → Int32) (sl : Nat → Int32) (et : Nat → Int32) (p0 : Int32) (v15 : Int64) (v18 : Int64) (v20 : Int32) (mnL : Nat → Int64) : Int32 × (Nat → Int32) × (Nat → Int64) × (Nat → Int32) × (Nat → Int32) × (Nat → Int32) := let x1 := M_Md_stripsOf md sz bf mf sp sl et p0 v18.toInt32; (x1.1, x1.2.1, (vp_updL (vp_updL (vp_updL (vp_updL (vp_updL (vp_updL mnL (v20 + 6).toNatClampNeg v18) (v20 + 7).toNatClampNeg v15) (v20 + 8).toNatClampNeg (M_Md_valueOr md bf et 7 0 300)) (v20 + 9).toNatClampNeg (M_Md_valueOr md bf et 7 1 1)) (v20 + 10).toNatClampNeg (M_Md_valueOr md bf et 8 0 300)) (v20 + 11).toNatClampNeg (M_Md_valueOr md bf et 8 1 1)), x1.2.2.1, x1.2.2.2.1, x1.2.2.2.2)
def K_Md_values_330 (md : Nat → Int32) (sz : Int32) (bf : Nat → Int32) (mn : Nat → Int64) (mf : Nat → Int32) (sp : Nat → Int32) (sl : Nat → Int32) (et : Nat → Int32) (p0 : Int32) (v3 : Int64) (v5 : Int64) (v7 : Int64) (v9 : Int64) (v11 : Int64) (v13 : Int64) (v15 : Int64) (v17 : Int32)  : Int32 × (Nat → Int32) × (Nat → Int64) × (Nat → Int32) × (Nat → Int32) × (Nat → Int32) := if v17 ≤ 0 then (let y2 := (((v5 + v13) - 1) / v13); if (lg_cmp (M_Md_readFour md bf ((et (9 : Int32).toNatClampNeg) + 4)) y2) = 0 then (if (lg_cmp (M_Md_readFour md bf ((et (10 : Int32).toNatClampNeg) + 4)) y2) = 0 then (if (lg_cmp ((mf p0.toNatClampNeg).toInt64 + y2) 8192) ≤ 0 then (let y3 := (13 * p0); if 0 ≤ (lg_cmp v13 v5) then (K_Md_values_530 md sz bf mf sp sl et p0  v15 y2 y3 (vp_updL (vp_updL (vp_updL (vp_updL (vp_updL (vp_updL mn y3.toNatClampNeg v3) (y3 + 1).toNatClampNeg v5) (y3 + 2).toNatClampNeg v7) (y3 + 3).toNatClampNeg v9) (y3 + 4).toNatClampNeg v11) (y3 + 5).toNatClampNeg v5)) else (K_Md_values_530 md sz bf mf sp sl et p0  v15 y2 y3 (vp_updL (vp_updL (vp_updL (vp_updL (vp_updL (vp_updL mn y3.toNatClampNeg v3) (y3 + 1).toNatClampNeg v5) (y3 + 2).toNatClampNeg v7) (y3 + 3).toNatClampNeg v9) (y3 + 4).toNatClampNeg v11) (y3 + 5).toNatClampNeg v13))) else (let x4 := M_Md_wrong md 8 p0 278 0; (x4.1, x4.2, mn, mf, sp, sl))) else (let x5 := M_Md_wrong md 8 p0 279 0; (x5.1, x5.2, mn, mf, sp, sl))) else (let x6 := M_Md_wrong md 8 p0 273 0; (x6.1, x6.2, mn, mf, sp, sl))) else (let x7 := M_Md_wrong md 7 p0 v17 0; (x7.1, x7.2, mn, mf, sp, sl))
def K_Md_values_206 (md : Nat → Int32) (sz : Int32) (bf : Nat → Int32) (mn : Nat → Int64) (mf : Nat → Int32) (sp : Nat → Int32) (sl : Nat → Int32) (et : Nat → Int32) (p0 : Int32) (v3 : Int64) (v5 : Int64) (v7 : Int64) (v9 : Int64) (v11 : Int64) (v13 : Int64) (v15 : Int64)  : Int32 × (Nat → Int32) × (Nat → Int64) × (Nat → Int32) × (Nat → Int32) × (Nat → Int32) := if (lg_cmp v9 1) ≤ 0 then (if (lg_cmp v11 1) < 0 then (K_Md_values_330 md sz bf mn mf sp sl et p0  v3 v5 v7 v9 v11 v13 v15 266) else (if (lg_cmp v11 2) ≤ 0 then (if (lg_cmp v13 0) = 0 then (K_Md_values_330 md sz bf mn mf sp sl et p0  v3 v5 v7 v9 v11 v13 v15 278) else (if (lg_cmp v15 1) < 0 then (K_Md_values_330 md sz bf mn mf sp sl et p0  v3 v5 v7 v9 v11 v13 v15 296) else (if (lg_cmp v15 3) ≤ 0 then (if (lg_cmp (M_Md_valueOr md bf et 7 1 1) 0) = 0 then (K_Md_values_330 md sz bf mn mf sp sl et p0  v3 v5 v7 v9 v11 v13 v15 282) else (if (lg_cmp (M_Md_valueOr md bf et 8 1 1) 0) = 0 then (K_Md_values_330 md sz bf mn mf sp sl et p0  v3 v5 v7 v9 v11 v13 v15 283) else (K_Md_values_330 md sz bf mn mf sp sl et p0  v3 v5 v7 v9 v11 v13 v15 0))) else (K_Md_values_330 md sz bf mn mf sp sl et p0  v3 v5 v7 v9 v11 v13 v15 296)))) else (K_Md_values_330 md sz bf mn mf sp sl et p0  v3 v5 v7 v9 v11 v13 v15 266))) else (K_Md_values_330 md sz bf mn mf sp sl et p0  v3 v5 v7 v9 v11 v13 v15 262)
def GK_Md_values_530 (md : Nat → Int32) (sz : Int32) (bf : Nat → Int32) (mf : Nat → Int32) (sp : Nat → Int32) (sl : Nat → Int32) (et : Nat → Int32) (p0 : Int32) (v15 : Int64) (v18 : Int64) (v20 : Int32) (mnL : Nat → Int64) : Prop := (vp_in (v20 + 6) 520) ∧ (vp_in (v20 + 7) 520) ∧ (G_Md_valueOr md bf et 7 0) ∧ (vp_in (v20 + 8) 520) ∧ (G_Md_valueOr md bf et 7 1) ∧ (vp_in (v20 + 9) 520) ∧ (G_Md_valueOr md bf et 8 0) ∧ (vp_in (v20 + 10) 520) ∧ (G_Md_valueOr md bf et 8 1) ∧ (vp_in (v20 + 11) 520) ∧ (G_Md_stripsOf md sz bf mf sp sl et p0 v18.toInt32)
def GK_Md_values_330 (md : Nat → Int32) (sz : Int32) (bf : Nat → Int32) (mn : Nat → Int64) (mf : Nat → Int32) (sp : Nat → Int32) (sl : Nat → Int32) (et : Nat → Int32) (p0 : Int32) (v3 : Int64) (v5 : Int64) (v7 : Int64) (v9 : Int64) (v11 : Int64) (v13 : Int64) (v15 : Int64) (v17 : Int32)  : Prop := (if v17 ≤ 0 then ((¬ v13 = 0) ∧ ∀ y2, y2 = (((v5 + v13) - 1) / v13) → (vp_in 9 11) ∧ (G_Md_readFour md bf ((et (9 : Int32).toNatClampNeg) + 4)) ∧ (if (lg_cmp (M_Md_readFour md bf ((et (9 : Int32).toNatClampNeg) + 4)) y2) = 0 then ((vp_in 10 11) ∧ (G_Md_readFour md bf ((et (10 : Int32).toNatClampNeg) + 4)) ∧ (if (lg_cmp (M_Md_readFour md bf ((et (10 : Int32).toNatClampNeg) + 4)) y2) = 0 then ((vp_in p0 41) ∧ (if (lg_cmp ((mf p0.toNatClampNeg).toInt64 + y2) 8192) ≤ 0 then (∀ y3, y3 = (13 * p0) → (vp_in y3 520) ∧ (vp_in (y3 + 1) 520) ∧ (vp_in (y3 + 2) 520) ∧ (vp_in (y3 + 3) 520) ∧ (vp_in (y3 + 4) 520) ∧ (if 0 ≤ (lg_cmp v13 v5) then ((vp_in (y3 + 5) 520) ∧ GK_Md_values_530 md sz bf mf sp sl et p0  v15 y2 y3 (vp_updL (vp_updL (vp_updL (vp_updL (vp_updL (vp_updL mn y3.toNatClampNeg v3) (y3 + 1).toNatClampNeg v5) (y3 + 2).toNatClampNeg v7) (y3 + 3).toNatClampNeg v9) (y3 + 4).toNatClampNeg v11) (y3 + 5).toNatClampNeg v5)) else ((vp_in (y3 + 5) 520) ∧ GK_Md_values_530 md sz bf mf sp sl et p0  v15 y2 y3 (vp_updL (vp_updL (vp_updL (vp_updL (vp_updL (vp_updL mn y3.toNatClampNeg v3) (y3 + 1).toNatClampNeg v5) (y3 + 2).toNatClampNeg v7) (y3 + 3).toNatClampNeg v9) (y3 + 4).toNatClampNeg v11) (y3 + 5).toNatClampNeg v13)))) else (True))) else (True))) else (True))) else (True))
def GK_Md_values_206 (md : Nat → Int32) (sz : Int32) (bf : Nat → Int32) (mn : Nat → Int64) (mf : Nat → Int32) (sp : Nat → Int32) (sl : Nat → Int32) (et : Nat → Int32) (p0 : Int32) (v3 : Int64) (v5 : Int64) (v7 : Int64) (v9 : Int64) (v11 : Int64) (v13 : Int64) (v15 : Int64)  : Prop := (if (lg_cmp v9 1) ≤ 0 then ((if (lg_cmp v11 1) < 0 then (GK_Md_values_330 md sz bf mn mf sp sl et p0  v3 v5 v7 v9 v11 v13 v15 266) else ((if (lg_cmp v11 2) ≤ 0 then ((if (lg_cmp v13 0) = 0 then (GK_Md_values_330 md sz bf mn mf sp sl et p0  v3 v5 v7 v9 v11 v13 v15 278) else ((if (lg_cmp v15 1) < 0 then (GK_Md_values_330 md sz bf mn mf sp sl et p0  v3 v5 v7 v9 v11 v13 v15 296) else ((if (lg_cmp v15 3) ≤ 0 then ((G_Md_valueOr md bf et 7 1) ∧ (if (lg_cmp (M_Md_valueOr md bf et 7 1 1) 0) = 0 then (GK_Md_values_330 md sz bf mn mf sp sl et p0  v3 v5 v7 v9 v11 v13 v15 282) else ((G_Md_valueOr md bf et 8 1) ∧ (if (lg_cmp (M_Md_valueOr md bf et 8 1 1) 0) = 0 then (GK_Md_values_330 md sz bf mn mf sp sl et p0  v3 v5 v7 v9 v11 v13 v15 283) else (GK_Md_values_330 md sz bf mn mf sp sl et p0  v3 v5 v7 v9 v11 v13 v15 0))))) else (GK_Md_values_330 md sz bf mn mf sp sl et p0  v3 v5 v7 v9 v11 v13 v15 296))))))) else (GK_Md_values_330 md sz bf mn mf sp sl et p0  v3 v5 v7 v9 v11 v13 v15 266))))) else (GK_Md_values_330 md sz bf mn mf sp sl et p0  v3 v5 v7 v9 v11 v13 v15 262))
def G_Md_values (md : Nat → Int32) (sz : Int32) (bf : Nat → Int32) (mn : Nat → Int64) (mf : Nat → Int32) (sp : Nat → Int32) (sl : Nat → Int32) (et : Nat → Int32) (p0 : Int32) : Prop := (vp_in 0 11) ∧ (if 0 ≤ (et (0 : Int32).toNatClampNeg) then ((vp_in 1 11) ∧ (if 0 ≤ (et (1 : Int32).toNatClampNeg) then ((vp_in 9 11) ∧ (if 0 ≤ (et (9 : Int32).toNatClampNeg) then ((vp_in 10 11) ∧ (if 0 ≤ (et (10 : Int32).toNatClampNeg) then ((G_Md_value md bf et 0 0) ∧ ∀ y8, y8 = (M_Md_value md bf et 0 0) → (G_Md_value md bf et 1 0) ∧ ∀ y9, y9 = (M_Md_value md bf et 1 0) → (G_Md_valueOr md bf et 2 0) ∧ ∀ y10, y10 = (M_Md_valueOr md bf et 2 0 1) → (G_Md_valueOr md bf et 3 0) ∧ ∀ y11, y11 = (M_Md_valueOr md bf et 3 0 0) → (G_Md_valueOr md bf et 4 0) ∧ ∀ y12, y12 = (M_Md_valueOr md bf et 4 0 1) → (G_Md_valueOr md bf et 5 0) ∧ ∀ y13, y13 = (M_Md_valueOr md bf et 5 0 y9) → (G_Md_valueOr md bf et 6 0) ∧ ∀ y14, y14 = (M_Md_valueOr md bf et 6 0 2) → (if (lg_cmp y8 1) < 0 then (GK_Md_values_330 md sz bf mn mf sp sl et p0  y8 y9 y10 y11 y12 y13 y14 256) else ((if (lg_cmp y8 20000) ≤ 0 then ((if (lg_cmp y9 1) < 0 then (GK_Md_values_330 md sz bf mn mf sp sl et p0  y8 y9 y10 y11 y12 y13 y14 257) else ((if (lg_cmp y9 20000) ≤ 0 then ((if (lg_cmp y10 1) = 0 then (GK_Md_values_206 md sz bf mn mf sp sl et p0  y8 y9 y10 y11 y12 y13 y14) else ((if (lg_cmp y10 4) = 0 then (GK_Md_values_206 md sz bf mn mf sp sl et p0  y8 y9 y10 y11 y12 y13 y14) else (GK_Md_values_330 md sz bf mn mf sp sl et p0  y8 y9 y10 y11 y12 y13 y14 259))))) else (GK_Md_values_330 md sz bf mn mf sp sl et p0  y8 y9 y10 y11 y12 y13 y14 257))))) else (GK_Md_values_330 md sz bf mn mf sp sl et p0  y8 y9 y10 y11 y12 y13 y14 256))))) else (True))) else (True))) else (True))) else (True))
def M_Md_values (md : Nat → Int32) (sz : Int32) (bf : Nat → Int32) (mn : Nat → Int64) (mf : Nat → Int32) (sp : Nat → Int32) (sl : Nat → Int32) (et : Nat → Int32) (p0 : Int32) : Int32 × (Nat → Int32) × (Nat → Int64) × (Nat → Int32) × (Nat → Int32) × (Nat → Int32) := if 0 ≤ (et (0 : Int32).toNatClampNeg) then (if 0 ≤ (et (1 : Int32).toNatClampNeg) then (if 0 ≤ (et (9 : Int32).toNatClampNeg) then (if 0 ≤ (et (10 : Int32).toNatClampNeg) then (let y8 := (M_Md_value md bf et 0 0); let y9 := (M_Md_value md bf et 1 0); let y10 := (M_Md_valueOr md bf et 2 0 1); let y11 := (M_Md_valueOr md bf et 3 0 0); let y12 := (M_Md_valueOr md bf et 4 0 1); let y13 := (M_Md_valueOr md bf et 5 0 y9); let y14 := (M_Md_valueOr md bf et 6 0 2); if (lg_cmp y8 1) < 0 then (K_Md_values_330 md sz bf mn mf sp sl et p0  y8 y9 y10 y11 y12 y13 y14 256) else (if (lg_cmp y8 20000) ≤ 0 then (if (lg_cmp y9 1) < 0 then (K_Md_values_330 md sz bf mn mf sp sl et p0  y8 y9 y10 y11 y12 y13 y14 257) else (if (lg_cmp y9 20000) ≤ 0 then (if (lg_cmp y10 1) = 0 then (K_Md_values_206 md sz bf mn mf sp sl et p0  y8 y9 y10 y11 y12 y13 y14) else (if (lg_cmp y10 4) = 0 then (K_Md_values_206 md sz bf mn mf sp sl et p0  y8 y9 y10 y11 y12 y13 y14) else (K_Md_values_330 md sz bf mn mf sp sl et p0  y8 y9 y10 y11 y12 y13 y14 259))) else (K_Md_values_330 md sz bf mn mf sp sl et p0  y8 y9 y10 y11 y12 y13 y14 257))) else (K_Md_values_330 md sz bf mn mf sp sl et p0  y8 y9 y10 y11 y12 y13 y14 256))) else (let x15 := M_Md_wrong md 6 p0 279 0; (x15.1, x15.2, mn, mf, sp, sl))) else (let x16 := M_Md_wrong md 6 p0 273 0; (x16.1, x16.2, mn, mf, sp, sl))) else (let x17 := M_Md_wrong md 6 p0 257 0; (x17.1, x17.2, mn, mf, sp, sl))) else (let x18 := M_Md_wrong md 6 p0 256 0; (x18.1, x18.2, mn, mf, sp, sl))
-- PictureFileModel.lies(J)Z
def G_Md_lies (md : Nat → Int32) (sz : Int32) (p0 : Int64) : Prop := (if (lg_cmp p0 8) < 0 then (True) else ((if (lg_cmp (p0 - p0 / 2 * 2) 1) = 0 then (True) else ((if (lg_cmp (p0 + 2) sz.toInt64) ≤ 0 then ((G_Md_readTwo md p0.toInt32)) else (True))))))
def M_Md_lies (md : Nat → Int32) (sz : Int32) (bf : Nat → Int32) (p0 : Int64) : Int32 := if (lg_cmp p0 8) < 0 then (0) else (if (lg_cmp (p0 - p0 / 2 * 2) 1) = 0 then (0) else (if (lg_cmp (p0 + 2) sz.toInt64) ≤ 0 then (let y1 := (M_Md_readTwo md bf p0.toInt32); if y1 ≤ 0 then (0) else (if 0 < (lg_cmp (((p0 + 2) + (12 * y1.toInt64)) + 4) sz.toInt64) then (0) else (1))) else (0)))
theorem nb_Md_lies (md : Nat → Int32) (sz : Int32) (bf : Nat → Int32) (p0 : Int64) : narrow .boolean (.int (M_Md_lies md sz bf p0)) = .int (M_Md_lies md sz bf p0) := by unfold M_Md_lies; (try dsimp only); (repeat' split) <;> first | rfl
-- PictureFileModel.gone()V
def L_Md_gone (sz : Int32) (bf : Nat → Int32) : Nat → Int64 → Int32 → Int32 → (Nat → Int32) → (Nat → Int64) → (Nat → Int32) → (Nat → Int32) → (Nat → Int32) → (Nat → Int32) → (Nat → Int32) × (Nat → Int64) × (Nat → Int32) × (Nat → Int32) × (Nat → Int32) × (Nat → Int32)
  | 0, _, _, _, mdL, mnL, mfL, spL, slL, etL => (mdL, mnL, mfL, spL, slL, etL)
  | n + 1, v1, v3, v4, mdL, mnL, mfL, spL, slL, etL => if v3 = 0 then (if (mdL 16) ≤ 0 then (((upd mdL 15 v4), mnL, mfL, spL, slL, etL)) else (((upd mdL 15 0), mnL, mfL, spL, slL, etL))) else (if v4 = 40 then (let x2 := M_Md_wrong mdL 2 v4 0 0; L_Md_gone sz bf n v1 x2.1 v4 x2.2 mnL mfL spL slL etL) else (if (M_Md_lies mdL sz bf v1) = 0 then (let x6 := M_Md_wrong mdL 2 v4 0 0; L_Md_gone sz bf n v1 x6.1 v4 x6.2 mnL mfL spL slL etL) else (let x3 := M_Md_entries mdL sz bf etL v4 v1.toInt32; if x3.1 = 0 then (L_Md_gone sz bf n v1 0 v4 x3.2.1 mnL mfL spL slL x3.2.2) else (let x4 := M_Md_values x3.2.1 sz bf mnL mfL spL slL x3.2.2 v4; if x4.1 = 0 then (L_Md_gone sz bf n v1 0 v4 x4.2.1 x4.2.2.1 x4.2.2.2.1 x4.2.2.2.2.1 x4.2.2.2.2.2 x3.2.2) else (let y5 := (M_Md_readFour x4.2.1 bf ((v1.toInt32 + 2) + (12 * (M_Md_readTwo x4.2.1 bf v1.toInt32)))); if (lg_cmp y5 0) = 0 then (L_Md_gone sz bf n y5 0 (v4 + 1) x4.2.1 (vp_updL x4.2.2.1 ((13 * v4) + 12).toNatClampNeg v1) x4.2.2.2.1 x4.2.2.2.2.1 x4.2.2.2.2.2 x3.2.2) else (L_Md_gone sz bf n y5 1 (v4 + 1) x4.2.1 (vp_updL x4.2.2.1 ((13 * v4) + 12).toNatClampNeg v1) x4.2.2.2.1 x4.2.2.2.2.1 x4.2.2.2.2.2 x3.2.2))))))
def GL_Md_gone (sz : Int32) (bf : Nat → Int32) : Nat → Int64 → Int32 → Int32 → (Nat → Int32) → (Nat → Int64) → (Nat → Int32) → (Nat → Int32) → (Nat → Int32) → (Nat → Int32) → Prop
  | 0, _, _, _, _, _, _, _, _, _ => False
  | n + 1, v1, v3, v4, mdL, mnL, mfL, spL, slL, etL => (if v3 = 0 then (True) else ((if v4 = 40 then (∀ x2, x2 = M_Md_wrong mdL 2 v4 0 0 → GL_Md_gone sz bf n v1 x2.1 v4 x2.2 mnL mfL spL slL etL) else ((G_Md_lies mdL sz v1) ∧ (if (M_Md_lies mdL sz bf v1) = 0 then (∀ x6, x6 = M_Md_wrong mdL 2 v4 0 0 → GL_Md_gone sz bf n v1 x6.1 v4 x6.2 mnL mfL spL slL etL) else ((G_Md_entries mdL sz bf etL v4 v1.toInt32) ∧ ∀ x3, x3 = M_Md_entries mdL sz bf etL v4 v1.toInt32 → (if x3.1 = 0 then (GL_Md_gone sz bf n v1 0 v4 x3.2.1 mnL mfL spL slL x3.2.2) else ((G_Md_values x3.2.1 sz bf mnL mfL spL slL x3.2.2 v4) ∧ ∀ x4, x4 = M_Md_values x3.2.1 sz bf mnL mfL spL slL x3.2.2 v4 → (if x4.1 = 0 then (GL_Md_gone sz bf n v1 0 v4 x4.2.1 x4.2.2.1 x4.2.2.2.1 x4.2.2.2.2.1 x4.2.2.2.2.2 x3.2.2) else ((vp_in ((13 * v4) + 12) 520) ∧ (G_Md_readTwo x4.2.1 v1.toInt32) ∧ (G_Md_readFour x4.2.1 bf ((v1.toInt32 + 2) + (12 * (M_Md_readTwo x4.2.1 bf v1.toInt32)))) ∧ ∀ y5, y5 = (M_Md_readFour x4.2.1 bf ((v1.toInt32 + 2) + (12 * (M_Md_readTwo x4.2.1 bf v1.toInt32)))) → (if (lg_cmp y5 0) = 0 then (GL_Md_gone sz bf n y5 0 (v4 + 1) x4.2.1 (vp_updL x4.2.2.1 ((13 * v4) + 12).toNatClampNeg v1) x4.2.2.2.1 x4.2.2.2.2.1 x4.2.2.2.2.2 x3.2.2) else (GL_Md_gone sz bf n y5 1 (v4 + 1) x4.2.1 (vp_updL x4.2.2.1 ((13 * v4) + 12).toNatClampNeg v1) x4.2.2.2.1 x4.2.2.2.2.1 x4.2.2.2.2.2 x3.2.2))))))))))))
def G_Md_gone (md : Nat → Int32) (sz : Int32) (bf : Nat → Int32) (mn : Nat → Int64) (mf : Nat → Int32) (sp : Nat → Int32) (sl : Nat → Int32) (et : Nat → Int32) : Prop := (G_Md_readFour (upd md 15 0) bf 4) ∧ ∀ y1, y1 = (M_Md_readFour (upd md 15 0) bf 4) → GL_Md_gone sz bf (((42 : Int32).toInt - (0 : Int32).toInt).toNat + 1) y1 1 0 (upd md 15 0) mn mf sp sl et
def M_Md_gone (md : Nat → Int32) (sz : Int32) (bf : Nat → Int32) (mn : Nat → Int64) (mf : Nat → Int32) (sp : Nat → Int32) (sl : Nat → Int32) (et : Nat → Int32) : (Nat → Int32) × (Nat → Int64) × (Nat → Int32) × (Nat → Int32) × (Nat → Int32) × (Nat → Int32) := let y1 := (M_Md_readFour (upd md 15 0) bf 4); L_Md_gone sz bf (((42 : Int32).toInt - (0 : Int32).toInt).toNat + 1) y1 1 0 (upd md 15 0) mn mf sp sl et
-- PictureFileModel.read()I
def K_Md_read_133   (mdL : Nat → Int32) (mnL : Nat → Int64) (mfL : Nat → Int32) (spL : Nat → Int32) (slL : Nat → Int32) (etL : Nat → Int32) : Int32 × (Nat → Int32) × (Nat → Int64) × (Nat → Int32) × (Nat → Int32) × (Nat → Int32) × (Nat → Int32) := if (mdL 16) ≤ 0 then (let y1 := (mdL 14); ((mdL 15), (upd mdL 14 y1), mnL, mfL, spL, slL, etL)) else (((-(mdL 16)), (upd mdL 14 0), mnL, mfL, spL, slL, etL))
def K_Md_read_103 (sz : Int32) (bf : Nat → Int32) (mn : Nat → Int64) (mf : Nat → Int32) (sp : Nat → Int32) (sl : Nat → Int32) (et : Nat → Int32) (v1 : Int32) (mdL : Nat → Int32) : Int32 × (Nat → Int32) × (Nat → Int64) × (Nat → Int32) × (Nat → Int32) × (Nat → Int32) × (Nat → Int32) := if v1 = 0 then (let x2 := M_Md_wrong mdL 1 0 0 0; K_Md_read_133  x2.2 mn mf sp sl et) else (if (M_Md_readTwo mdL bf 2) = 42 then (let x3 := M_Md_gone mdL sz bf mn mf sp sl et; K_Md_read_133  x3.1 x3.2.1 x3.2.2.1 x3.2.2.2.1 x3.2.2.2.2.1 x3.2.2.2.2.2) else (let x4 := M_Md_wrong mdL 1 0 0 0; K_Md_read_133  x4.2 mn mf sp sl et))
def GK_Md_read_133   (mdL : Nat → Int32) (mnL : Nat → Int64) (mfL : Nat → Int32) (spL : Nat → Int32) (slL : Nat → Int32) (etL : Nat → Int32) : Prop := True
def GK_Md_read_103 (sz : Int32) (bf : Nat → Int32) (mn : Nat → Int64) (mf : Nat → Int32) (sp : Nat → Int32) (sl : Nat → Int32) (et : Nat → Int32) (v1 : Int32) (mdL : Nat → Int32) : Prop := (if v1 = 0 then (∀ x2, x2 = M_Md_wrong mdL 1 0 0 0 → GK_Md_read_133  x2.2 mn mf sp sl et) else ((G_Md_readTwo mdL 2) ∧ (if (M_Md_readTwo mdL bf 2) = 42 then ((G_Md_gone mdL sz bf mn mf sp sl et) ∧ ∀ x3, x3 = M_Md_gone mdL sz bf mn mf sp sl et → GK_Md_read_133  x3.1 x3.2.1 x3.2.2.1 x3.2.2.2.1 x3.2.2.2.2.1 x3.2.2.2.2.2) else (∀ x4, x4 = M_Md_wrong mdL 1 0 0 0 → GK_Md_read_133  x4.2 mn mf sp sl et))))
def G_Md_read (md : Nat → Int32) (sz : Int32) (bf : Nat → Int32) (mn : Nat → Int64) (mf : Nat → Int32) (sp : Nat → Int32) (sl : Nat → Int32) (et : Nat → Int32) : Prop := (if (md 1) = 0 then ((if 8 ≤ sz then ((G_Md_at 0) ∧ ∀ y5, y5 = (M_Md_at bf 0) → (if sz < 8 then (GK_Md_read_103 sz bf mn mf sp sl et  0 (upd (upd (upd (upd md 0 0) 14 y5) 15 0) 16 0)) else ((G_Md_at 0) ∧ (G_Md_at 1) ∧ (if (M_Md_at bf 0) = (M_Md_at bf 1) then ((if y5 = 73 then (GK_Md_read_103 sz bf mn mf sp sl et  1 (upd (upd (upd (upd md 0 0) 14 y5) 15 0) 16 0)) else ((if y5 = 77 then (GK_Md_read_103 sz bf mn mf sp sl et  1 (upd (upd (upd (upd md 0 0) 14 y5) 15 0) 16 0)) else (GK_Md_read_103 sz bf mn mf sp sl et  0 (upd (upd (upd (upd md 0 0) 14 y5) 15 0) 16 0)))))) else (GK_Md_read_103 sz bf mn mf sp sl et  0 (upd (upd (upd (upd md 0 0) 14 y5) 15 0) 16 0)))))) else ((if sz < 8 then (GK_Md_read_103 sz bf mn mf sp sl et  0 (upd (upd (upd (upd md 0 0) 14 0) 15 0) 16 0)) else ((G_Md_at 0) ∧ (G_Md_at 1) ∧ (if (M_Md_at bf 0) = (M_Md_at bf 1) then (GK_Md_read_103 sz bf mn mf sp sl et  0 (upd (upd (upd (upd md 0 0) 14 0) 15 0) 16 0)) else (GK_Md_read_103 sz bf mn mf sp sl et  0 (upd (upd (upd (upd md 0 0) 14 0) 15 0) 16 0)))))))) else (True))
def M_Md_read (md : Nat → Int32) (sz : Int32) (bf : Nat → Int32) (mn : Nat → Int64) (mf : Nat → Int32) (sp : Nat → Int32) (sl : Nat → Int32) (et : Nat → Int32) : Int32 × (Nat → Int32) × (Nat → Int64) × (Nat → Int32) × (Nat → Int32) × (Nat → Int32) × (Nat → Int32) := if (md 1) = 0 then (if 8 ≤ sz then (let y5 := (M_Md_at bf 0); if sz < 8 then (K_Md_read_103 sz bf mn mf sp sl et  0 (upd (upd (upd (upd md 0 0) 14 y5) 15 0) 16 0)) else (if (M_Md_at bf 0) = (M_Md_at bf 1) then (if y5 = 73 then (K_Md_read_103 sz bf mn mf sp sl et  1 (upd (upd (upd (upd md 0 0) 14 y5) 15 0) 16 0)) else (if y5 = 77 then (K_Md_read_103 sz bf mn mf sp sl et  1 (upd (upd (upd (upd md 0 0) 14 y5) 15 0) 16 0)) else (K_Md_read_103 sz bf mn mf sp sl et  0 (upd (upd (upd (upd md 0 0) 14 y5) 15 0) 16 0)))) else (K_Md_read_103 sz bf mn mf sp sl et  0 (upd (upd (upd (upd md 0 0) 14 y5) 15 0) 16 0)))) else (if sz < 8 then (K_Md_read_103 sz bf mn mf sp sl et  0 (upd (upd (upd (upd md 0 0) 14 0) 15 0) 16 0)) else (if (M_Md_at bf 0) = (M_Md_at bf 1) then (K_Md_read_103 sz bf mn mf sp sl et  0 (upd (upd (upd (upd md 0 0) 14 0) 15 0) 16 0)) else (K_Md_read_103 sz bf mn mf sp sl et  0 (upd (upd (upd (upd md 0 0) 14 0) 15 0) 16 0))))) else ((0, (upd md 0 1), mn, mf, sp, sl, et))
-- PictureFileModel.fault(I)I
def M_Md_fault (md : Nat → Int32) (p0 : Int32) : Int32 × (Nat → Int32) := if (md 16) = 0 then (((-1), (upd md 0 0))) else (if p0 < 0 then (((-1), (upd md 0 0))) else (if p0 ≤ 2 then (if p0 = 0 then (((md 17), (upd md 0 0))) else (if p0 = 1 then (((md 18), (upd md 0 0))) else (((md 19), (upd md 0 0))))) else (((-1), (upd md 0 0)))))
-- PictureFileModel.of(II)J
def G_Md_of (md : Nat → Int32) (p0 : Int32) (p1 : Int32) : Prop := (if p0 < 0 then (True) else ((if (md 15) ≤ p0 then (True) else ((if p1 < 0 then (True) else ((if 13 ≤ p1 then (True) else ((vp_in ((13 * p0) + p1) 520)))))))))
def M_Md_of (md : Nat → Int32) (mn : Nat → Int64) (p0 : Int32) (p1 : Int32) : Int64 × (Nat → Int32) := if p0 < 0 then ((0, (upd md 0 1))) else (if (md 15) ≤ p0 then ((0, (upd md 0 1))) else (if p1 < 0 then ((0, (upd md 0 1))) else (if 13 ≤ p1 then ((0, (upd md 0 1))) else (((mn ((13 * p0) + p1).toNatClampNeg), (upd md 0 0))))))
-- PictureFileModel.isStrip(II)Z
def G_Md_isStrip (md : Nat → Int32) (p0 : Int32) (p1 : Int32) : Prop := (if p0 < 0 then (True) else ((if (md 15) ≤ p0 then (True) else ((if p1 < 0 then (True) else ((vp_in ((13 * p0) + 6) 520)))))))
def M_Md_isStrip (md : Nat → Int32) (mn : Nat → Int64) (p0 : Int32) (p1 : Int32) : Int32 := if p0 < 0 then (0) else (if (md 15) ≤ p0 then (0) else (if p1 < 0 then (0) else (if 0 ≤ (lg_cmp p1.toInt64 (mn ((13 * p0) + 6).toNatClampNeg)) then (0) else (1))))
theorem nb_Md_isStrip (md : Nat → Int32) (mn : Nat → Int64) (p0 : Int32) (p1 : Int32) : narrow .boolean (.int (M_Md_isStrip md mn p0 p1)) = .int (M_Md_isStrip md mn p0 p1) := by unfold M_Md_isStrip; (try dsimp only); (repeat' split) <;> first | rfl
-- PictureFileModel.where(III)I
def G_Md_where (md : Nat → Int32) (mn : Nat → Int64) (mf : Nat → Int32) (p0 : Int32) (p1 : Int32) (p2 : Int32) : Prop := (G_Md_isStrip md p0 p1) ∧ (if (M_Md_isStrip md mn p0 p1) = 0 then (True) else ((if p2 = 0 then ((vp_in p0 41) ∧ (vp_in ((mf p0.toNatClampNeg) + p1) 8192)) else ((if p2 = 1 then ((vp_in p0 41) ∧ (vp_in ((mf p0.toNatClampNeg) + p1) 8192)) else (True))))))
def M_Md_where (md : Nat → Int32) (mn : Nat → Int64) (mf : Nat → Int32) (sp : Nat → Int32) (sl : Nat → Int32) (p0 : Int32) (p1 : Int32) (p2 : Int32) : Int32 × (Nat → Int32) := if (M_Md_isStrip md mn p0 p1) = 0 then ((0, (upd md 0 1))) else (if p2 = 0 then (((sp ((mf p0.toNatClampNeg) + p1).toNatClampNeg), (upd md 0 0))) else (if p2 = 1 then (((sl ((mf p0.toNatClampNeg) + p1).toNatClampNeg), (upd md 0 0))) else ((0, (upd md 0 1)))))
-- PictureFileModel.dots(III)I
def G_Md_dots (md : Nat → Int32) (sz : Int32) (mn : Nat → Int64) (mf : Nat → Int32) (sp : Nat → Int32) (sl : Nat → Int32) (p0 : Int32) (p1 : Int32) (p2 : Int32) : Prop := (G_Md_isStrip md p0 p1) ∧ (if (M_Md_isStrip md mn p0 p1) = 0 then (True) else ((vp_in p0 41) ∧ ∀ y1, y1 = ((mf p0.toNatClampNeg) + p1) → (if p2 < 0 then (True) else ((vp_in y1 8192) ∧ (if (sl y1.toNatClampNeg) ≤ p2 then (True) else ((vp_in y1 8192) ∧ (if sz ≤ ((sp y1.toNatClampNeg) + p2) then (True) else ((vp_in y1 8192) ∧ (G_Md_at ((sp y1.toNatClampNeg) + p2))))))))))
def M_Md_dots (md : Nat → Int32) (sz : Int32) (bf : Nat → Int32) (mn : Nat → Int64) (mf : Nat → Int32) (sp : Nat → Int32) (sl : Nat → Int32) (p0 : Int32) (p1 : Int32) (p2 : Int32) : Int32 × (Nat → Int32) := if (M_Md_isStrip md mn p0 p1) = 0 then ((0, (upd md 0 1))) else (let y1 := ((mf p0.toNatClampNeg) + p1); if p2 < 0 then ((0, (upd md 0 1))) else (if (sl y1.toNatClampNeg) ≤ p2 then ((0, (upd md 0 1))) else (if sz ≤ ((sp y1.toNatClampNeg) + p2) then ((0, (upd md 0 1))) else (((M_Md_at bf ((sp y1.toNatClampNeg) + p2)), (upd md 0 0))))))
-- PictureFileModel.look(I)I
def M_Md_look (md : Nat → Int32) (sz : Int32) (p0 : Int32) : Int32 × (Nat → Int32) := if 4 ≤ p0 then (if p0 = 4 then (if (md 2) = 0 then ((0, (upd md 0 0))) else ((((md 11) - (md 12)), (upd md 0 0)))) else (if p0 = 5 then (if (md 2) = 0 then ((0, (upd md 0 0))) else (((md 13), (upd md 0 0)))) else (if p0 = 6 then (((md 15), (upd md 0 0))) else (if p0 = 7 then (((md 14), (upd md 0 0))) else (((-1), (upd md 0 0))))))) else (if p0 = 0 then ((sz, (upd md 0 0))) else (if p0 = 1 then (if (md 1) = 0 then ((0, (upd md 0 0))) else ((1, (upd md 0 0)))) else (if p0 = 2 then (if (md 2) = 0 then ((0, (upd md 0 0))) else ((1, (upd md 0 0)))) else (if p0 = 3 then (((md 4), (upd md 0 0))) else (((-1), (upd md 0 0)))))))
-- PictureFile$Row.<init>()V
-- PictureFile$Strips.<init>(I)V
-- PictureFile$Maker.<init>(LPictureFile$Row;)V
-- PictureFile$PageNumbers.<init>()V
-- PictureFile$Entries.<init>(LPictureFile$Row;)V
-- PictureFile$Reader.<init>(LPictureFile$Row;)V
-- PictureFile.<init>()V
-- PictureFileModel.<init>()V
-- PictureFile.begin(I)V
def T_PF_begin (p0 : Int32) : Int32 := if (M_PF_isOrder p0) = 0 then (1) else (0)
def M_PF_begin (mk : Nat → Int32) (ro : RowS) (st : RowS) (p0 : Int32) : (Nat → Int32) × RowS × RowS := if (M_PF_isOrder p0) = 0 then ((mk, ro, st)) else (let x1 := M_Mk_startFile mk ro st p0; (x1.1, x1.2.1, x1.2.2))
theorem tr_PF_begin (p0 : Int32) : T_PF_begin p0 = 0 ∨ T_PF_begin p0 = 1 := by unfold T_PF_begin; (try dsimp only); (repeat' split) <;> decide
-- PictureFile.page(IIIII)I
def T_PF_page (mk : Nat → Int32) (p0 : Int32) (p1 : Int32) (p2 : Int32) (p3 : Int32) (p4 : Int32) : Int32 := if (mk 0) = 0 then (2) else (if (mk 1) = 0 then (if (mk 3) < 40 then (if (M_PF_isSheet p0 p1 p2) = 0 then (1) else (if (M_PF_isFineness p3) = 0 then (1) else (if (M_PF_isFineness p4) = 0 then (1) else (0)))) else (2)) else (2))
def M_PF_page (mk : Nat → Int32) (st : RowS) (p0 : Int32) (p1 : Int32) (p2 : Int32) (p3 : Int32) (p4 : Int32) : Int32 × (Nat → Int32) := if (mk 0) = 0 then ((0, mk)) else (if (mk 1) = 0 then (if (mk 3) < 40 then (if (M_PF_isSheet p0 p1 p2) = 0 then ((0, mk)) else (if (M_PF_isFineness p3) = 0 then ((0, mk)) else (if (M_PF_isFineness p4) = 0 then ((0, mk)) else (let x1 := M_Mk_startPage mk p0 p1 p2 p3 p4; ((M_Mk_stripsToCome x1 st), x1))))) else ((0, mk))) else ((0, mk)))
theorem tr_PF_page (mk : Nat → Int32) (p0 : Int32) (p1 : Int32) (p2 : Int32) (p3 : Int32) (p4 : Int32) : T_PF_page mk p0 p1 p2 p3 p4 = 0 ∨ T_PF_page mk p0 p1 p2 p3 p4 = 1 ∨ T_PF_page mk p0 p1 p2 p3 p4 = 2 := by unfold T_PF_page; (try dsimp only); (repeat' split) <;> decide
-- PictureFile.strip()I
def T_PF_strip (mk : Nat → Int32) (st : RowS) : Int32 := if (M_Mk_stripsToCome mk st) = 0 then (2) else (0)
def M_PF_strip (mk : Nat → Int32) (ro : RowS) (st : RowS) : Int32 × (Nat → Int32) × RowS × RowS := if (M_Mk_stripsToCome mk st) = 0 then ((0, mk, ro, st)) else (let x1 := M_Mk_finishStrip mk ro st; ((M_Mk_stripsToCome x1.1 x1.2.2), x1.1, x1.2.1, x1.2.2))
theorem tr_PF_strip (mk : Nat → Int32) (st : RowS) : T_PF_strip mk st = 0 ∨ T_PF_strip mk st = 2 := by unfold T_PF_strip; (try dsimp only); (repeat' split) <;> decide
-- PictureFile.close()I
def T_PF_close (mk : Nat → Int32) (ro : RowS) (st : RowS) : Int32 := if (mk 1) = 0 then (2) else (if 0 < (M_Mk_stripsToCome mk st) then (2) else (if (M_Mk_sizeWithPage ro st) ≤ 65536 then (0) else (2)))
def M_PF_close (mk : Nat → Int32) (ro : RowS) (st : RowS) : Int32 × (Nat → Int32) × RowS × RowS := if (mk 1) = 0 then ((0, mk, ro, st)) else (if 0 < (M_Mk_stripsToCome mk st) then ((0, mk, ro, st)) else (if (M_Mk_sizeWithPage ro st) ≤ 65536 then (let x1 := M_Mk_finishPage mk ro st; (x1.2.1.2.2, x1.1, x1.2.1, x1.2.2)) else ((0, mk, ro, st))))
theorem tr_PF_close (mk : Nat → Int32) (ro : RowS) (st : RowS) : T_PF_close mk ro st = 0 ∨ T_PF_close mk ro st = 2 := by unfold T_PF_close; (try dsimp only); (repeat' split) <;> decide
-- PictureFile.end()I
def T_PF_end (mk : Nat → Int32) : Int32 := if (mk 0) = 0 then (2) else (if (mk 1) = 0 then (0) else (2))
def M_PF_end (mk : Nat → Int32) : Int32 × (Nat → Int32) := if (mk 0) = 0 then ((0, mk)) else (if (mk 1) = 0 then (((mk 3), (upd mk 0 0))) else ((0, mk)))
theorem tr_PF_end (mk : Nat → Int32) : T_PF_end mk = 0 ∨ T_PF_end mk = 2 := by unfold T_PF_end; (try dsimp only); (repeat' split) <;> decide
-- PictureFile.read()I
def T_PF_read (mk : Nat → Int32) : Int32 := if (mk 0) = 0 then (0) else (2)
def M_PF_read (mk : Nat → Int32) (ro : RowS) (rd : Nat → Int32) (ty : Nat → Int32) (ct : Nat → Int32) (pl : Nat → Int32) (nu : Nat → Int64) (rs : RowS) (fs : Nat → Int32) : Int32 × (Nat → Int32) × (Nat → Int32) × (Nat → Int32) × (Nat → Int32) × (Nat → Int64) × RowS × (Nat → Int32) := if (mk 0) = 0 then (let x1 := M_Rd_goThrough rd ro ty ct pl nu rs fs; if (x1.1 3) = 0 then (((x1.1 0), x1.1, x1.2.1, x1.2.2.1, x1.2.2.2.1, x1.2.2.2.2.1, x1.2.2.2.2.2.1, x1.2.2.2.2.2.2)) else (((-(x1.1 3)), x1.1, x1.2.1, x1.2.2.1, x1.2.2.2.1, x1.2.2.2.2.1, x1.2.2.2.2.2.1, x1.2.2.2.2.2.2))) else ((0, rd, ty, ct, pl, nu, rs, fs))
theorem tr_PF_read (mk : Nat → Int32) : T_PF_read mk = 0 ∨ T_PF_read mk = 2 := by unfold T_PF_read; (try dsimp only); (repeat' split) <;> decide
-- PictureFile.of(II)J
def T_PF_of (rd : Nat → Int32) (p0 : Int32) (p1 : Int32) : Int32 := if (M_Rd_hasPage rd p0) = 0 then (3) else (if p1 < 0 then (3) else (if p1 < 13 then (0) else (3)))
def M_PF_of (rd : Nat → Int32) (nu : Nat → Int64) (p0 : Int32) (p1 : Int32) : Int64 := if (M_Rd_hasPage rd p0) = 0 then (0) else (if p1 < 0 then (0) else (if p1 < 13 then ((M_Pn_get nu p0 p1)) else (0)))
theorem tr_PF_of (rd : Nat → Int32) (p0 : Int32) (p1 : Int32) : T_PF_of rd p0 p1 = 0 ∨ T_PF_of rd p0 p1 = 3 := by unfold T_PF_of; (try dsimp only); (repeat' split) <;> decide
-- PictureFile.where(III)I
def T_PF_where (rd : Nat → Int32) (nu : Nat → Int64) (p0 : Int32) (p1 : Int32) (p2 : Int32) : Int32 := if (M_Rd_hasStrip rd nu p0 p1) = 0 then (3) else (if p2 < 0 then (3) else (if p2 ≤ 1 then (0) else (3)))
def M_PF_where (rd : Nat → Int32) (nu : Nat → Int64) (rs : RowS) (fs : Nat → Int32) (p0 : Int32) (p1 : Int32) (p2 : Int32) : Int32 := if (M_Rd_hasStrip rd nu p0 p1) = 0 then (0) else (if p2 < 0 then (0) else (if p2 ≤ 1 then ((M_Rd_ofStrip rs fs p0 p1 p2)) else (0)))
theorem tr_PF_where (rd : Nat → Int32) (nu : Nat → Int64) (p0 : Int32) (p1 : Int32) (p2 : Int32) : T_PF_where rd nu p0 p1 p2 = 0 ∨ T_PF_where rd nu p0 p1 p2 = 3 := by unfold T_PF_where; (try dsimp only); (repeat' split) <;> decide
-- PictureFile.dots(III)I
def T_PF_dots (ro : RowS) (rd : Nat → Int32) (nu : Nat → Int64) (rs : RowS) (fs : Nat → Int32) (p0 : Int32) (p1 : Int32) (p2 : Int32) : Int32 := if (M_Rd_hasStrip rd nu p0 p1) = 0 then (3) else (if p2 < 0 then (3) else (if p2 < (M_Rd_ofStrip rs fs p0 p1 1) then (if ((M_Rd_ofStrip rs fs p0 p1 0) + p2) < ro.2.2 then (0) else (3)) else (3)))
def M_PF_dots (ro : RowS) (rd : Nat → Int32) (nu : Nat → Int64) (rs : RowS) (fs : Nat → Int32) (p0 : Int32) (p1 : Int32) (p2 : Int32) : Int32 := if (M_Rd_hasStrip rd nu p0 p1) = 0 then (0) else (if p2 < 0 then (0) else (if p2 < (M_Rd_ofStrip rs fs p0 p1 1) then (if ((M_Rd_ofStrip rs fs p0 p1 0) + p2) < ro.2.2 then ((M_Row_at ro (((M_Rd_ofStrip rs fs p0 p1 0) + p2).toInt64))) else (0)) else (0)))
theorem tr_PF_dots (ro : RowS) (rd : Nat → Int32) (nu : Nat → Int64) (rs : RowS) (fs : Nat → Int32) (p0 : Int32) (p1 : Int32) (p2 : Int32) : T_PF_dots ro rd nu rs fs p0 p1 p2 = 0 ∨ T_PF_dots ro rd nu rs fs p0 p1 p2 = 3 := by unfold T_PF_dots; (try dsimp only); (repeat' split) <;> decide
-- PictureFileLaw.begin(LPictureFile;I)I
def M_Lw_begin (mk : Nat → Int32) (ro : RowS) (st : RowS) (p0 : Int32) : Int32 × (Nat → Int32) × RowS × RowS := if T_PF_begin p0 = 0 then (let x1 := M_PF_begin mk ro st p0; (0, x1.1, x1.2.1, x1.2.2)) else ((1, mk, ro, st))
-- PictureFileLaw.page(LPictureFile;IIIII[J)I
def M_Lw_page (mk : Nat → Int32) (st : RowS) (ou : Nat → Int64) (p0 : Int32) (p1 : Int32) (p2 : Int32) (p3 : Int32) (p4 : Int32) : Int32 × (Nat → Int32) × (Nat → Int64) := if T_PF_page mk p0 p1 p2 p3 p4 = 0 then (let x1 := M_PF_page mk st p0 p1 p2 p3 p4; (0, x1.2, (vp_updL ou (0 : Int32).toNatClampNeg x1.1.toInt64))) else (if T_PF_page mk p0 p1 p2 p3 p4 = 1 then ((2, mk, ou)) else ((1, mk, ou)))
-- PictureFileLaw.strip(LPictureFile;[J)I
def M_Lw_strip (mk : Nat → Int32) (ro : RowS) (st : RowS) (ou : Nat → Int64) : Int32 × (Nat → Int32) × RowS × RowS × (Nat → Int64) := if T_PF_strip mk st = 0 then (let x1 := M_PF_strip mk ro st; (0, x1.2.1, x1.2.2.1, x1.2.2.2, (vp_updL ou (0 : Int32).toNatClampNeg x1.1.toInt64))) else ((1, mk, ro, st, ou))
-- PictureFileLaw.close(LPictureFile;[J)I
def M_Lw_close (mk : Nat → Int32) (ro : RowS) (st : RowS) (ou : Nat → Int64) : Int32 × (Nat → Int32) × RowS × RowS × (Nat → Int64) := if T_PF_close mk ro st = 0 then (let x1 := M_PF_close mk ro st; (0, x1.2.1, x1.2.2.1, x1.2.2.2, (vp_updL ou (0 : Int32).toNatClampNeg x1.1.toInt64))) else ((1, mk, ro, st, ou))
-- PictureFileLaw.end(LPictureFile;[J)I
def M_Lw_end (mk : Nat → Int32) (ou : Nat → Int64) : Int32 × (Nat → Int32) × (Nat → Int64) := if T_PF_end mk = 0 then (let x1 := M_PF_end mk; (0, x1.2, (vp_updL ou (0 : Int32).toNatClampNeg x1.1.toInt64))) else ((1, mk, ou))
-- PictureFileLaw.read(LPictureFile;[J)I
def M_Lw_read (mk : Nat → Int32) (ro : RowS) (rd : Nat → Int32) (ty : Nat → Int32) (ct : Nat → Int32) (pl : Nat → Int32) (nu : Nat → Int64) (rs : RowS) (fs : Nat → Int32) (ou : Nat → Int64) : Int32 × (Nat → Int32) × (Nat → Int32) × (Nat → Int32) × (Nat → Int32) × (Nat → Int64) × RowS × (Nat → Int32) × (Nat → Int64) := if T_PF_read mk = 0 then (let x1 := M_PF_read mk ro rd ty ct pl nu rs fs; (0, x1.2.1, x1.2.2.1, x1.2.2.2.1, x1.2.2.2.2.1, x1.2.2.2.2.2.1, x1.2.2.2.2.2.2.1, x1.2.2.2.2.2.2.2, (vp_updL ou (0 : Int32).toNatClampNeg x1.1.toInt64))) else ((1, rd, ty, ct, pl, nu, rs, fs, ou))
-- PictureFileLaw.of(LPictureFile;II[J)I
def M_Lw_of (rd : Nat → Int32) (nu : Nat → Int64) (ou : Nat → Int64) (p0 : Int32) (p1 : Int32) : Int32 × (Nat → Int64) := if T_PF_of rd p0 p1 = 0 then ((0, (vp_updL ou (0 : Int32).toNatClampNeg (M_PF_of rd nu p0 p1)))) else ((1, ou))
-- PictureFileLaw.where(LPictureFile;III[J)I
def M_Lw_where (rd : Nat → Int32) (nu : Nat → Int64) (rs : RowS) (fs : Nat → Int32) (ou : Nat → Int64) (p0 : Int32) (p1 : Int32) (p2 : Int32) : Int32 × (Nat → Int64) := if T_PF_where rd nu p0 p1 p2 = 0 then ((0, (vp_updL ou (0 : Int32).toNatClampNeg ((M_PF_where rd nu rs fs p0 p1 p2).toInt64)))) else ((1, ou))
-- PictureFileLaw.dots(LPictureFile;III[J)I
def M_Lw_dots (ro : RowS) (rd : Nat → Int32) (nu : Nat → Int64) (rs : RowS) (fs : Nat → Int32) (ou : Nat → Int64) (p0 : Int32) (p1 : Int32) (p2 : Int32) : Int32 × (Nat → Int64) := if T_PF_dots ro rd nu rs fs p0 p1 p2 = 0 then ((0, (vp_updL ou (0 : Int32).toNatClampNeg ((M_PF_dots ro rd nu rs fs p0 p1 p2).toInt64)))) else ((1, ou))
section PURE3
theorem ok_Row_replace {ro : RowS} (h : RowOK ro) (p0 p1 : Int32) : RowOK (M_Row_replace ro p0 p1) := by
  unfold M_Row_replace
  (repeat' split) <;> first | exact h | exact ⟨h.1, h.2.1, fit_u h.2.2 _ _⟩
theorem mo_Row_replace {ro : RowS} (h : RowOK ro) (p0 p1 : Int32) : ro.1 ≤ (M_Row_replace ro p0 p1).1 := by
  unfold M_Row_replace
  (repeat' split) <;> exact Nat.le_refl _
/-- a byte comes into the row's room -/
theorem add_lt {ro : RowS} (h : RowOK ro) {k : Nat} (hk : ro.2.2 = nI k) (hlt : k < ro.1) (v : Int32) : M_Row_add ro v = (ro.1, upd ro.2.1 k (vp_nar .byte v.toInt8.toInt32), nI (k + 1)) := by
  have hb := h.le
  have c1 : ro.2.2 < nI ro.1 := by rw [hk]; exact nI_lt hlt (by omega)
  have c2 : ¬ ro.2.2 < 0 := by rw [hk]; exact nI_pos (by omega)
  have c3 : ¬ nI ro.1 ≤ ro.2.2 := by rw [hk]; exact nI_ge hlt (by omega)
  unfold M_Row_add
  rw [if_pos c1, if_neg c2, if_neg c3, hk, nI_clamp (by omega), nI_1]
theorem add_full {ro : RowS} (h : RowOK ro) {k : Nat} (hk : ro.2.2 = nI k) (hkn : k ≤ ro.1) (hlt : 65536 ≤ k) (v : Int32) : M_Row_add ro v = ro := by
  have hb := h.le
  have e1 : k = 65536 := by omega
  have e2 : ro.1 = 65536 := by omega
  have c1 : ¬ ro.2.2 < nI ro.1 := by rw [hk, e1, e2]; decide
  have c2 : 65536 ≤ ro.2.2 := by rw [hk, e1]; decide
  have c3 : ¬ ro.2.2 < 0 := by rw [hk, e1]; decide
  have c4 : nI ro.1 ≤ ro.2.2 := by rw [hk, e1, e2]; decide
  unfold M_Row_add
  rw [if_neg c1, if_pos c2, if_neg c3, if_pos c4]
theorem add_grow {ro : RowS} (h : RowOK ro) (hk : ro.2.2 = nI ro.1) (hlt : ro.1 < 65536) (v : Int32) : M_Row_add ro v = (2 * ro.1, upd (cpyN ro.2.1 ro.1 (nI (2 * ro.1))) ro.1 (vp_nar .byte v.toInt8.toInt32), nI (ro.1 + 1)) := by
  have hb := h.le
  have c1 : ¬ ro.2.2 < nI ro.1 := by rw [hk]; exact nI_nlt (Nat.le_refl _) (by omega)
  have c2 : ¬ 65536 ≤ ro.2.2 := by rw [hk]; exact nI_ge (b := 65536) hlt (by omega)
  obtain ⟨g0, g1, g2, -⟩ := row_grow h c1 c2
  have eN : (if 65536 < (2 * ro.2.2) then 65536 else (2 * ro.2.2)) = nI (2 * ro.1) := by
    obtain ⟨j, hj, e⟩ := nI_of g0
    rw [e] at g1 ⊢
    rw [nI_clamp hj] at g1
    rw [g1]
  have c3 : ¬ ro.2.2 < 0 := by rw [hk]; exact nI_pos (by omega)
  have c4 : ¬ nI (2 * ro.1) ≤ ro.2.2 := by rw [hk]; exact nI_ge (by omega) (by omega)
  unfold M_Row_add
  rw [if_neg c1, if_neg c2, if_neg c3, eN, nI_clamp (by omega), if_neg c4, hk, nI_clamp (by omega), nI_1]
theorem add_ok {ro : RowS} (h : RowOK ro) (v : Int32) : RowOK (M_Row_add ro v) ∧ ro.1 ≤ (M_Row_add ro v).1 := by
  have hb := h.le
  obtain ⟨k, hk, hkn⟩ := h.2.1
  rcases Nat.lt_or_ge k ro.1 with q | q
  · rw [add_lt h hk q v]
    exact ⟨⟨h.1, ⟨k + 1, rfl, q⟩, fit_u h.2.2 _ _⟩, Nat.le_refl _⟩
  · have e : k = ro.1 := by omega
    rcases Nat.lt_or_ge ro.1 65536 with q2 | q2
    · rw [add_grow h (by rw [hk, e]) q2 v]
      refine ⟨⟨?_, ⟨ro.1 + 1, rfl, by show ro.1 + 1 ≤ 2 * ro.1; omega⟩, fit_u (fit_c h.2.2 _ _) _ _⟩, by show ro.1 ≤ 2 * ro.1; omega⟩
      obtain ⟨j, hj, hn⟩ := h.1
      have h5 : j ≤ 5 := by
        rcases Nat.lt_or_ge 5 j with q | q
        · have : j = 6 := by omega
          rw [this] at hn
          have : p2 6 = 64 := rfl
          omega
        · exact q
      refine ⟨j + 1, by omega, ?_⟩
      show 2 * ro.1 = 1024 * p2 (j + 1)
      rw [p2_s j (by omega), hn]
      omega
    · rw [add_full h hk hkn (by omega) v]
      exact ⟨h, Nat.le_refl _⟩
theorem ok_Row_add {ro : RowS} (h : RowOK ro) (p0 : Int32) : RowOK (M_Row_add ro p0) := (add_ok h p0).1
theorem mo_Row_add {ro : RowS} (h : RowOK ro) (p0 : Int32) : ro.1 ≤ (M_Row_add ro p0).1 := (add_ok h p0).2
theorem sadd_lt {mo : Int32} {st : RowS} (h : StOK mo st) {k : Nat} (hk : st.2.2 = nI k) (hlt : 2 * k < st.1) (a b : Int32) : M_St_add mo st a b = (st.1, upd (upd st.2.1 (2 * k) a) (2 * k + 1) b, nI (k + 1)) := by
  have hb := h.le
  have he := st_even h
  have e0 : 2 * st.2.2 = nI (2 * k) := by rw [hk]; exact pk_mul 2 k
  have c1 : 2 * st.2.2 < nI st.1 := by rw [e0]; exact nI_lt hlt (by omega)
  have c2 : ¬ 2 * st.2.2 < 0 := by rw [e0]; exact nI_pos (by omega)
  have c3 : ¬ nI st.1 ≤ 2 * st.2.2 + 1 := by rw [e0, nI_1]; exact nI_ge (by omega) (by omega)
  unfold M_St_add
  rw [if_pos c1, if_neg c2, if_neg c3, e0, nI_1, nI_clamp (by omega), nI_clamp (by omega), hk, nI_1]
theorem sadd_full {mo : Int32} {st : RowS} (h : StOK mo st) {k : Nat} (hk : st.2.2 = nI k) (hkn : 2 * k = st.1) (hlt : mo ≤ nI k) (a b : Int32) : M_St_add mo st a b = st := by
  have hb := h.le
  have e0 : 2 * st.2.2 = nI (2 * k) := by rw [hk]; exact pk_mul 2 k
  have c1 : ¬ 2 * st.2.2 < nI st.1 := by rw [e0]; exact nI_nlt (by omega) (by omega)
  have c2 : mo ≤ st.2.2 := by rw [hk]; exact hlt
  have c3 : ¬ 2 * st.2.2 < 0 := by rw [e0]; exact nI_pos (by omega)
  have c4 : nI st.1 ≤ 2 * st.2.2 + 1 := by rw [e0, nI_1]; exact nI_le (by omega) (by omega)
  unfold M_St_add
  rw [if_neg c1, if_pos c2, if_neg c3, if_pos c4]
theorem sadd_grow {mo : Int32} {st : RowS} (h : StOK mo st) {k : Nat} (hk : st.2.2 = nI k) (hkn : 2 * k = st.1) (hlt : ¬ mo ≤ nI k) (a b : Int32) : M_St_add mo st a b = (2 * st.1, upd (upd (cpyN st.2.1 st.1 (nI (2 * st.1))) (2 * k) a) (2 * k + 1) b, nI (k + 1)) := by
  have hb := h.le
  have e0 : 2 * st.2.2 = nI (2 * k) := by rw [hk]; exact pk_mul 2 k
  have c1 : ¬ 2 * st.2.2 < nI st.1 := by rw [e0]; exact nI_nlt (by omega) (by omega)
  have c2 : ¬ mo ≤ st.2.2 := by rw [hk]; exact hlt
  obtain ⟨g0, g1, g2, -⟩ := st_grow h c1 c2
  have eN : 2 * (if mo < (2 * st.2.2) then mo else (2 * st.2.2)) = nI (2 * st.1) := by
    obtain ⟨j, hj, e⟩ := nI_of g0
    rw [e] at g1 ⊢
    rw [nI_clamp hj] at g1
    rw [g1]
  have c3 : ¬ 2 * st.2.2 < 0 := by rw [e0]; exact nI_pos (by omega)
  have c4 : ¬ nI (2 * st.1) ≤ 2 * st.2.2 + 1 := by rw [e0, nI_1]; exact nI_ge (by omega) (by omega)
  unfold M_St_add
  rw [if_neg c1, if_neg c2, if_neg c3, eN, nI_clamp (by omega), if_neg c4, e0, nI_1, nI_clamp (by omega), nI_clamp (by omega), hk, nI_1]
theorem sadd_ok {mo : Int32} {st : RowS} (h : StOK mo st) (a b : Int32) : StOK mo (M_St_add mo st a b) ∧ st.1 ≤ (M_St_add mo st a b).1 := by
  have hb := h.le
  have he := st_even h
  obtain ⟨k, hk, hkn⟩ := h.2
  rcases Nat.lt_or_ge (2 * k) st.1 with q | q
  · rw [sadd_lt h hk q a b]
    exact ⟨⟨h.1, k + 1, rfl, by show 2 * (k + 1) ≤ st.1; omega⟩, Nat.le_refl _⟩
  · have e : 2 * k = st.1 := by omega
    by_cases q2 : mo ≤ nI k
    · rw [sadd_full h hk e q2 a b]
      exact ⟨h, Nat.le_refl _⟩
    · rw [sadd_grow h hk e q2 a b]
      refine ⟨⟨?_, k + 1, rfl, by show 2 * (k + 1) ≤ 2 * st.1; omega⟩, by show st.1 ≤ 2 * st.1; omega⟩
      obtain ⟨M, hM, hM2, h3, h4⟩ := st_cap h
      rw [hM, nI_leI (by omega) (by omega)] at q2
      rcases h.1 with ⟨hm, j, hj, hn⟩ | ⟨hm, j, hj, hn⟩
      · refine Or.inl ⟨hm, j + 1, ?_, ?_⟩
        · rcases Nat.lt_or_ge 4 j with z | z
          · have z5 : j = 5 := by omega
            rw [z5] at hn
            have : p2 5 = 32 := rfl
            have e5 : M = 512 := by
              rw [hm] at hM
              rcases hM2 with rfl | rfl
              · rfl
              · exact absurd hM (by decide)
            omega
          · omega
        · show 2 * st.1 = 32 * p2 (j + 1)
          rw [p2_s j (by omega), hn]
          omega
      · refine Or.inr ⟨hm, j + 1, ?_, ?_⟩
        · rcases Nat.lt_or_ge 8 j with z | z
          · have z5 : j = 9 := by omega
            rw [z5] at hn
            have : p2 9 = 512 := rfl
            have e5 : M = 8192 := by
              rw [hm] at hM
              rcases hM2 with rfl | rfl
              · exact absurd hM (by decide)
              · rfl
            omega
          · omega
        · show 2 * st.1 = 32 * p2 (j + 1)
          rw [p2_s j (by
            rcases Nat.lt_or_ge 8 j with z | z
            · have z5 : j = 9 := by omega
              rw [z5] at hn
              have : p2 9 = 512 := rfl
              rcases hM2 with rfl | rfl
              · rw [hm] at hM; exact absurd hM (by decide)
              · omega
            · exact z), hn]
          omega
theorem ok_St_add {mo : Int32} {st : RowS} (h : StOK mo st) (p0 p1 : Int32) : StOK mo (M_St_add mo st p0 p1) := (sadd_ok h p0 p1).1
theorem mo_St_add {mo : Int32} {st : RowS} (h : StOK mo st) (p0 p1 : Int32) : st.1 ≤ (M_St_add mo st p0 p1).1 := (sadd_ok h p0 p1).2
end PURE3
