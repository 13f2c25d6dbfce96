set_option maxHeartbeats 4000000 in
set_option maxRecDepth 100000 in
theorem c_PF_isWithin {l : Launch} {D : va_G} {cB cI cJ : ClassId} (p0 : Int64) (p1 : Int64) (p2 : Int64) : CtP classes BW l D (TY cB cI cJ) y_PF_isWithin b_PF_isWithin 6 (some .boolean) ({ frames := 0, cells := 0, slots := 0, locals := 0 } : Room) [.long p0, .long p1, .long p2] [] (some (.int (M_PF_isWithin p0 p1 p2))) := by
  refine CtP.intro (by decide +kernel) (Nat.le_of_ble_eq_true rfl) ?_
  intro p e s m below meth c hx hb hr hml hlocks hnm hown hK hS hP hD ls hl Q hQ
  have hown : s.vm.findClass "PictureFile" = some m.cls := hown
  have hH : Hold classes BW D (TY cB cI cJ) p s m c b_PF_isWithin 6 "PictureFile" := ⟨bw_ok, hx, hb, hml, hown, hK⟩
  have hw : ∀ {w : Cond}, w ∈ BW → w.before ([.long p0, .long p1, .long p2] : List Value).toArray s = true := fun h => Wd.at bw_ok hK.2 h
  have hl : lv_has ls 6 [(0, .long p0), (2, .long p1), (4, .long p2)] := hl
  refine lv_lload_n hx hb d_PF_isWithin_0 rfl (lv_at hl 0 rfl) ?_
  refine lv_lload_n hx hb d_PF_isWithin_1 rfl (lv_at hl 1 rfl) ?_
  refine W.lcmp hx hb d_PF_isWithin_2 ?_
  refine lv_if_lt (tgt := 17) hx hb d_PF_isWithin_3 (by decide) (fun c_1 => ?_) (fun c_1 => ?_)
  · refine lv_iconst (v := 0) hx hb d_PF_isWithin_17 (by decide) ?_
    have ef : M_PF_isWithin p0 p1 p2 = 0 := by unfold M_PF_isWithin; (try dsimp only); rw [if_pos c_1]
    exact ct_piret hx hb hr (rfl) hlocks d_PF_isWithin_18 hQ hS (by rw [ef])
  · refine lv_lload_n hx hb d_PF_isWithin_6 rfl (lv_at hl 0 rfl) ?_
    refine lv_lload hx hb d_PF_isWithin_7 (lv_at hl 2 rfl) ?_
    refine W.lcmp hx hb d_PF_isWithin_9 ?_
    refine lv_if_gt (tgt := 17) hx hb d_PF_isWithin_10 (by decide) (fun c_2 => ?_) (fun c_2 => ?_)
    · refine lv_iconst (v := 0) hx hb d_PF_isWithin_17 (by decide) ?_
      have ef : M_PF_isWithin p0 p1 p2 = 0 := by unfold M_PF_isWithin; (try dsimp only); rw [if_neg c_1]; rw [if_pos c_2]
      exact ct_piret hx hb hr (rfl) hlocks d_PF_isWithin_18 hQ hS (by rw [ef])
    · refine lv_iconst (v := 1) hx hb d_PF_isWithin_13 (by decide) ?_
      refine lv_goto (tgt := 18) hx hb d_PF_isWithin_14 (by decide) ?_
      have ef : M_PF_isWithin p0 p1 p2 = 1 := by unfold M_PF_isWithin; (try dsimp only); rw [if_neg c_1]; rw [if_neg c_2]
      exact ct_piret hx hb hr (rfl) hlocks d_PF_isWithin_18 hQ hS (by rw [ef])
set_option maxHeartbeats 4000000 in
set_option maxRecDepth 100000 in
theorem c_PF_isPartLength {l : Launch} {D : va_G} {cB cI cJ : ClassId} (p0 : Int32) : CtP classes BW l D (TY cB cI cJ) y_PF_isPartLength b_PF_isPartLength 1 (some .boolean) ({ frames := 1, cells := 0, slots := 0, locals := 25 } : Room) [.int p0] [] (some (.int (M_PF_isPartLength p0))) := by
  refine CtP.intro (by decide +kernel) (Nat.le_of_ble_eq_true rfl) ?_
  intro p e s m below meth c hx hb hr hml hlocks hnm hown hK hS hP hD ls hl Q hQ
  have hown : s.vm.findClass "PictureFile" = some m.cls := hown
  have hH : Hold classes BW D (TY cB cI cJ) p s m c b_PF_isPartLength 1 "PictureFile" := ⟨bw_ok, hx, hb, hml, hown, hK⟩
  have hw : ∀ {w : Cond}, w ∈ BW → w.before ([.int p0] : List Value).toArray s = true := fun h => Wd.at bw_ok hK.2 h
  have hl : lv_has ls 1 [(0, .int p0)] := hl
  refine lv_iload_n hx hb d_PF_isPartLength_0 rfl (lv_at hl 0 rfl) ?_
  refine lv_i2l hx hb d_PF_isPartLength_1 rfl ?_
  refine lv_lconst (v := 1) hx hb d_PF_isPartLength_2 (by decide) ?_
  refine lv_ldc2 (v := 8) hx hb hown (hw kw_0) d_PF_isPartLength_3 ?_
  refine ct_finP (ct_runS (n := 3) (As := [.long p0.toInt64, .long 1, .long 8]) (rest := []) hH (c_PF_isWithin p0.toInt64 1 8 _) ⟨cal_PF_isWithin, ⟨Nat.le_of_ble_eq_true rfl, Nat.le_of_ble_eq_true rfl⟩, (Nat.le_of_ble_eq_true rfl), (Nat.le_of_ble_eq_true rfl)⟩ kw_1 kw_2 kw_3 kw_4 (hP.sub (ws' := []) [] rfl) (hD.sub (ws' := []) [] rfl rfl) rfl hl.1 (Nat.le_of_ble_eq_true rfl) d_PF_isPartLength_6) hP hS (fun H hP hS => ?_)
  refine W.eq (g2 := F0 m 9 ls [.int (M_PF_isWithin p0.toInt64 1 8)]) rfl ?_
  have ef : M_PF_isPartLength p0 = (M_PF_isWithin p0.toInt64 1 8) := by rfl
  exact ct_piret hx hb hr (nb_PF_isWithin _ _ _) hlocks d_PF_isPartLength_9 hQ hS (by rw [ef])
set_option maxHeartbeats 4000000 in
set_option maxRecDepth 100000 in
theorem c_PF_isOrder {l : Launch} {D : va_G} {cB cI cJ : ClassId} (p0 : Int32) : CtP classes BW l D (TY cB cI cJ) y_PF_isOrder b_PF_isOrder 1 (some .boolean) ({ frames := 0, cells := 0, slots := 0, locals := 0 } : Room) [.int p0] [] (some (.int (M_PF_isOrder p0))) := by
  refine CtP.intro (by decide +kernel) (Nat.le_of_ble_eq_true rfl) ?_
  intro p e s m below meth c hx hb hr hml hlocks hnm hown hK hS hP hD ls hl Q hQ
  have hown : s.vm.findClass "PictureFile" = some m.cls := hown
  have hH : Hold classes BW D (TY cB cI cJ) p s m c b_PF_isOrder 1 "PictureFile" := ⟨bw_ok, hx, hb, hml, hown, hK⟩
  have hw : ∀ {w : Cond}, w ∈ BW → w.before ([.int p0] : List Value).toArray s = true := fun h => Wd.at bw_ok hK.2 h
  have hl : lv_has ls 1 [(0, .int p0)] := hl
  refine lv_iload_n hx hb d_PF_isOrder_0 rfl (lv_at hl 0 rfl) ?_
  refine lv_bipush (v := 73) hx hb d_PF_isOrder_1 (by decide) ?_
  refine lv_icmp_eq (tgt := 12) hx hb d_PF_isOrder_3 (by decide) (fun c_1 => ?_) (fun c_1 => ?_)
  · refine lv_iconst (v := 1) hx hb d_PF_isOrder_12 (by decide) ?_
    refine lv_goto (tgt := 17) hx hb d_PF_isOrder_13 (by decide) ?_
    have ef : M_PF_isOrder p0 = 1 := by unfold M_PF_isOrder; (try dsimp only); rw [if_pos c_1]
    exact ct_piret hx hb hr (rfl) hlocks d_PF_isOrder_17 hQ hS (by rw [ef])
  · refine lv_iload_n hx hb d_PF_isOrder_6 rfl (lv_at hl 0 rfl) ?_
    refine lv_bipush (v := 77) hx hb d_PF_isOrder_7 (by decide) ?_
    refine lv_icmp_ne (tgt := 16) hx hb d_PF_isOrder_9 (by decide) (fun c_2 => ?_) (fun c_2 => ?_)
    · refine lv_iconst (v := 0) hx hb d_PF_isOrder_16 (by decide) ?_
      have ef : M_PF_isOrder p0 = 0 := by unfold M_PF_isOrder; (try dsimp only); rw [if_neg c_1]; rw [if_neg c_2]
      exact ct_piret hx hb hr (rfl) hlocks d_PF_isOrder_17 hQ hS (by rw [ef])
    · refine lv_iconst (v := 1) hx hb d_PF_isOrder_12 (by decide) ?_
      refine lv_goto (tgt := 17) hx hb d_PF_isOrder_13 (by decide) ?_
      have ef : M_PF_isOrder p0 = 1 := by unfold M_PF_isOrder; (try dsimp only); rw [if_neg c_1]; rw [if_pos c_2]
      exact ct_piret hx hb hr (rfl) hlocks d_PF_isOrder_17 hQ hS (by rw [ef])
set_option maxHeartbeats 4000000 in
set_option maxRecDepth 100000 in
theorem c_PF_isFineness {l : Launch} {D : va_G} {cB cI cJ : ClassId} (p0 : Int32) : CtP classes BW l D (TY cB cI cJ) y_PF_isFineness b_PF_isFineness 1 (some .boolean) ({ frames := 1, cells := 0, slots := 0, locals := 25 } : Room) [.int p0] [] (some (.int (M_PF_isFineness p0))) := by
  refine CtP.intro (by decide +kernel) (Nat.le_of_ble_eq_true rfl) ?_
  intro p e s m below meth c hx hb hr hml hlocks hnm hown hK hS hP hD ls hl Q hQ
  have hown : s.vm.findClass "PictureFile" = some m.cls := hown
  have hH : Hold classes BW D (TY cB cI cJ) p s m c b_PF_isFineness 1 "PictureFile" := ⟨bw_ok, hx, hb, hml, hown, hK⟩
  have hw : ∀ {w : Cond}, w ∈ BW → w.before ([.int p0] : List Value).toArray s = true := fun h => Wd.at bw_ok hK.2 h
  have hl : lv_has ls 1 [(0, .int p0)] := hl
  refine lv_iload_n hx hb d_PF_isFineness_0 rfl (lv_at hl 0 rfl) ?_
  refine lv_i2l hx hb d_PF_isFineness_1 rfl ?_
  refine lv_lconst (v := 1) hx hb d_PF_isFineness_2 (by decide) ?_
  refine lv_ldc2 (v := 10000) hx hb hown (hw kw_5) d_PF_isFineness_3 ?_
  refine ct_finP (ct_runS (n := 3) (As := [.long p0.toInt64, .long 1, .long 10000]) (rest := []) hH (c_PF_isWithin p0.toInt64 1 10000 _) ⟨cal_PF_isWithin, ⟨Nat.le_of_ble_eq_true rfl, Nat.le_of_ble_eq_true rfl⟩, (Nat.le_of_ble_eq_true rfl), (Nat.le_of_ble_eq_true rfl)⟩ kw_1 kw_2 kw_3 kw_4 (hP.sub (ws' := []) [] rfl) (hD.sub (ws' := []) [] rfl rfl) rfl hl.1 (Nat.le_of_ble_eq_true rfl) d_PF_isFineness_6) hP hS (fun H hP hS => ?_)
  refine W.eq (g2 := F0 m 9 ls [.int (M_PF_isWithin p0.toInt64 1 10000)]) rfl ?_
  have ef : M_PF_isFineness p0 = (M_PF_isWithin p0.toInt64 1 10000) := by rfl
  exact ct_piret hx hb hr (nb_PF_isWithin _ _ _) hlocks d_PF_isFineness_9 hQ hS (by rw [ef])
set_option maxHeartbeats 4000000 in
set_option maxRecDepth 100000 in
theorem c_PF_stripsOf {l : Launch} {D : va_G} {cB cI cJ : ClassId} (p0 : Int64) (p1 : Int64) : CtP classes BW l D (TY cB cI cJ) y_PF_stripsOf b_PF_stripsOf 4 (some .long) ({ frames := 0, cells := 0, slots := 0, locals := 0 } : Room) [.long p0, .long p1] [] (some (.long (M_PF_stripsOf p0 p1))) := by
  refine CtP.intro (by decide +kernel) (Nat.le_of_ble_eq_true rfl) ?_
  intro p e s m below meth c hx hb hr hml hlocks hnm hown hK hS hP hD ls hl Q hQ
  have hown : s.vm.findClass "PictureFile" = some m.cls := hown
  have hH : Hold classes BW D (TY cB cI cJ) p s m c b_PF_stripsOf 4 "PictureFile" := ⟨bw_ok, hx, hb, hml, hown, hK⟩
  have hw : ∀ {w : Cond}, w ∈ BW → w.before ([.long p0, .long p1] : List Value).toArray s = true := fun h => Wd.at bw_ok hK.2 h
  have hl : lv_has ls 4 [(0, .long p0), (2, .long p1)] := hl
  refine lv_lload_n hx hb d_PF_stripsOf_0 rfl (lv_at hl 1 rfl) ?_
  refine lv_lconst (v := 1) hx hb d_PF_stripsOf_1 (by decide) ?_
  refine W.lcmp hx hb d_PF_stripsOf_2 ?_
  refine lv_if_ge (tgt := 10) hx hb d_PF_stripsOf_3 (by decide) (fun c_1 => ?_) (fun c_1 => ?_)
  · refine lv_lload_n hx hb d_PF_stripsOf_10 rfl (lv_at hl 0 rfl) ?_
    refine lv_lload_n hx hb d_PF_stripsOf_11 rfl (lv_at hl 1 rfl) ?_
    refine lv_ladd hx hb d_PF_stripsOf_12 ?_
    refine lv_lconst (v := 1) hx hb d_PF_stripsOf_13 (by decide) ?_
    refine lv_lsub hx hb d_PF_stripsOf_14 ?_
    refine lv_lload_n hx hb d_PF_stripsOf_15 rfl (lv_at hl 1 rfl) ?_
    refine lv_ldiv hx hb d_PF_stripsOf_16 (ne0_long c_1) ?_
    have ef : M_PF_stripsOf p0 p1 = (((p0 + p1) - 1) / p1) := by unfold M_PF_stripsOf; (try dsimp only); rw [if_pos c_1]
    exact ct_plret hx hb hr hlocks d_PF_stripsOf_17 hQ hS (by rw [ef])
  · refine lv_lconst (v := 0) hx hb d_PF_stripsOf_6 (by decide) ?_
    refine lv_goto (tgt := 17) hx hb d_PF_stripsOf_7 (by decide) ?_
    have ef : M_PF_stripsOf p0 p1 = 0 := by unfold M_PF_stripsOf; (try dsimp only); rw [if_neg c_1]
    exact ct_plret hx hb hr hlocks d_PF_stripsOf_17 hQ hS (by rw [ef])
set_option maxHeartbeats 4000000 in
set_option maxRecDepth 100000 in
theorem c_PF_isSheet {l : Launch} {D : va_G} {cB cI cJ : ClassId} (p0 : Int32) (p1 : Int32) (p2 : Int32) : CtP classes BW l D (TY cB cI cJ) y_PF_isSheet b_PF_isSheet 3 (some .boolean) ({ frames := 1, cells := 0, slots := 0, locals := 25 } : Room) [.int p0, .int p1, .int p2] [] (some (.int (M_PF_isSheet p0 p1 p2))) := by
  refine CtP.intro (by decide +kernel) (Nat.le_of_ble_eq_true rfl) ?_
  intro p e s m below meth c hx hb hr hml hlocks hnm hown hK hS hP hD ls hl Q hQ
  have hown : s.vm.findClass "PictureFile" = some m.cls := hown
  have hH : Hold classes BW D (TY cB cI cJ) p s m c b_PF_isSheet 3 "PictureFile" := ⟨bw_ok, hx, hb, hml, hown, hK⟩
  have hw : ∀ {w : Cond}, w ∈ BW → w.before ([.int p0, .int p1, .int p2] : List Value).toArray s = true := fun h => Wd.at bw_ok hK.2 h
  have hl : lv_has ls 3 [(0, .int p0), (1, .int p1), (2, .int p2)] := hl
  refine lv_iload_n hx hb d_PF_isSheet_0 rfl (lv_at hl 0 rfl) ?_
  refine lv_i2l hx hb d_PF_isSheet_1 rfl ?_
  refine lv_lconst (v := 1) hx hb d_PF_isSheet_2 (by decide) ?_
  refine lv_ldc2 (v := 20000) hx hb hown (hw kw_6) d_PF_isSheet_3 ?_
  refine ct_finP (ct_runS (n := 3) (As := [.long p0.toInt64, .long 1, .long 20000]) (rest := []) hH (c_PF_isWithin p0.toInt64 1 20000 _) ⟨cal_PF_isWithin, ⟨Nat.le_of_ble_eq_true rfl, Nat.le_of_ble_eq_true rfl⟩, (Nat.le_of_ble_eq_true rfl), (Nat.le_of_ble_eq_true rfl)⟩ kw_1 kw_2 kw_3 kw_4 (hP.sub (ws' := []) [] rfl) (hD.sub (ws' := []) [] rfl rfl) rfl hl.1 (Nat.le_of_ble_eq_true rfl) d_PF_isSheet_6) hP hS (fun H hP hS => ?_)
  refine W.eq (g2 := F0 m 9 ls [.int (M_PF_isWithin p0.toInt64 1 20000)]) rfl ?_
  refine lv_if_eq (tgt := 53) hx hb d_PF_isSheet_9 (by decide) (fun c_1 => ?_) (fun c_1 => ?_)
  · refine lv_iconst (v := 0) hx hb d_PF_isSheet_53 (by decide) ?_
    have ef : M_PF_isSheet p0 p1 p2 = 0 := by unfold M_PF_isSheet; (try dsimp only); rw [if_pos c_1]
    exact ct_piret hx hb hr (rfl) hlocks d_PF_isSheet_54 hQ hS (by rw [ef])
  · refine lv_iload_n hx hb d_PF_isSheet_12 rfl (lv_at hl 1 rfl) ?_
    refine lv_i2l hx hb d_PF_isSheet_13 rfl ?_
    refine lv_lconst (v := 1) hx hb d_PF_isSheet_14 (by decide) ?_
    refine lv_ldc2 (v := 20000) hx hb hown (hw kw_6) d_PF_isSheet_15 ?_
    refine ct_finP (ct_runS (n := 3) (As := [.long p1.toInt64, .long 1, .long 20000]) (rest := []) hH (c_PF_isWithin p1.toInt64 1 20000 _) ⟨cal_PF_isWithin, ⟨Nat.le_of_ble_eq_true rfl, Nat.le_of_ble_eq_true rfl⟩, (Nat.le_of_ble_eq_true rfl), (Nat.le_of_ble_eq_true rfl)⟩ kw_1 kw_2 kw_3 kw_4 (hP.sub (ws' := []) [] rfl) (hD.sub (ws' := []) [] rfl rfl) rfl hl.1 (Nat.le_of_ble_eq_true rfl) d_PF_isSheet_18) hP hS (fun H hP hS => ?_)
    refine W.eq (g2 := F0 m 21 ls [.int (M_PF_isWithin p1.toInt64 1 20000)]) rfl ?_
    refine lv_if_eq (tgt := 53) hx hb d_PF_isSheet_21 (by decide) (fun c_2 => ?_) (fun c_2 => ?_)
    · refine lv_iconst (v := 0) hx hb d_PF_isSheet_53 (by decide) ?_
      have ef : M_PF_isSheet p0 p1 p2 = 0 := by unfold M_PF_isSheet; (try dsimp only); rw [if_neg c_1]; rw [if_pos c_2]
      exact ct_piret hx hb hr (rfl) hlocks d_PF_isSheet_54 hQ hS (by rw [ef])
    · refine lv_iload_n hx hb d_PF_isSheet_24 rfl (lv_at hl 2 rfl) ?_
      refine lv_i2l hx hb d_PF_isSheet_25 rfl ?_
      refine lv_lconst (v := 1) hx hb d_PF_isSheet_26 (by decide) ?_
      refine lv_iload_n hx hb d_PF_isSheet_27 rfl (lv_at hl 1 rfl) ?_
      refine lv_i2l hx hb d_PF_isSheet_28 rfl ?_
      refine ct_finP (ct_runS (n := 3) (As := [.long p2.toInt64, .long 1, .long p1.toInt64]) (rest := []) hH (c_PF_isWithin p2.toInt64 1 p1.toInt64 _) ⟨cal_PF_isWithin, ⟨Nat.le_of_ble_eq_true rfl, Nat.le_of_ble_eq_true rfl⟩, (Nat.le_of_ble_eq_true rfl), (Nat.le_of_ble_eq_true rfl)⟩ kw_1 kw_2 kw_3 kw_4 (hP.sub (ws' := []) [] rfl) (hD.sub (ws' := []) [] rfl rfl) rfl hl.1 (Nat.le_of_ble_eq_true rfl) d_PF_isSheet_29) hP hS (fun H hP hS => ?_)
      refine W.eq (g2 := F0 m 32 ls [.int (M_PF_isWithin p2.toInt64 1 p1.toInt64)]) rfl ?_
      refine lv_if_eq (tgt := 53) hx hb d_PF_isSheet_32 (by decide) (fun c_3 => ?_) (fun c_3 => ?_)
      · refine lv_iconst (v := 0) hx hb d_PF_isSheet_53 (by decide) ?_
        have ef : M_PF_isSheet p0 p1 p2 = 0 := by unfold M_PF_isSheet; (try dsimp only); rw [if_neg c_1]; rw [if_neg c_2]; rw [if_pos c_3]
        exact ct_piret hx hb hr (rfl) hlocks d_PF_isSheet_54 hQ hS (by rw [ef])
      · refine lv_iload_n hx hb d_PF_isSheet_35 rfl (lv_at hl 1 rfl) ?_
        refine lv_i2l hx hb d_PF_isSheet_36 rfl ?_
        refine lv_iload_n hx hb d_PF_isSheet_37 rfl (lv_at hl 2 rfl) ?_
        refine lv_i2l hx hb d_PF_isSheet_38 rfl ?_
        refine ct_finP (ct_runS (n := 2) (As := [.long p1.toInt64, .long p2.toInt64]) (rest := []) hH (c_PF_stripsOf p1.toInt64 p2.toInt64 _) ⟨cal_PF_stripsOf, ⟨Nat.le_of_ble_eq_true rfl, Nat.le_of_ble_eq_true rfl⟩, (Nat.le_of_ble_eq_true rfl), (Nat.le_of_ble_eq_true rfl)⟩ kw_7 kw_8 kw_3 kw_9 (hP.sub (ws' := []) [] rfl) (hD.sub (ws' := []) [] rfl rfl) rfl hl.1 (Nat.le_of_ble_eq_true rfl) d_PF_isSheet_39) hP hS (fun H hP hS => ?_)
        refine W.eq (g2 := F0 m 42 ls [.long (M_PF_stripsOf p1.toInt64 p2.toInt64)]) rfl ?_
        refine lv_ldc2 (v := 512) hx hb hown (hw kw_10) d_PF_isSheet_42 ?_
        refine W.lcmp hx hb d_PF_isSheet_45 ?_
        refine lv_if_gt (tgt := 53) hx hb d_PF_isSheet_46 (by decide) (fun c_4 => ?_) (fun c_4 => ?_)
        · refine lv_iconst (v := 0) hx hb d_PF_isSheet_53 (by decide) ?_
          have ef : M_PF_isSheet p0 p1 p2 = 0 := by unfold M_PF_isSheet; (try dsimp only); rw [if_neg c_1]; rw [if_neg c_2]; rw [if_neg c_3]; rw [if_pos c_4]
          exact ct_piret hx hb hr (rfl) hlocks d_PF_isSheet_54 hQ hS (by rw [ef])
        · refine lv_iconst (v := 1) hx hb d_PF_isSheet_49 (by decide) ?_
          refine lv_goto (tgt := 54) hx hb d_PF_isSheet_50 (by decide) ?_
          have ef : M_PF_isSheet p0 p1 p2 = 1 := by unfold M_PF_isSheet; (try dsimp only); rw [if_neg c_1]; rw [if_neg c_2]; rw [if_neg c_3]; rw [if_neg c_4]
          exact ct_piret hx hb hr (rfl) hlocks d_PF_isSheet_54 hQ hS (by rw [ef])
set_option maxHeartbeats 4000000 in
set_option maxRecDepth 100000 in
theorem c_Row_at {l : Launch} {D : va_G} {cB cI cJ : ClassId} (h0 h1 : Nat) (ro : RowS) (hro : RowOK ro) (p0 : Int64) : CtP classes BW l D (TY cB cI cJ) y_Row_at b_Row_at 3 (some .int) ({ frames := 0, cells := 0, slots := 0, locals := 0 } : Room) [.ref h0, .long p0] [(h0, .inr (0, [.ref h1, .int ro.2.2])), (h1, .inl (cB, ro.1, .inl ro.2.1))] (some (.int (M_Row_at ro p0))) := by
  refine CtP.intro (by decide +kernel) (Nat.le_of_ble_eq_true rfl) ?_
  intro p e s m below meth c hx hb hr hml hlocks hnm hown hK hS hP hD ls hl Q hQ
  have hown : s.vm.findClass "PictureFile$Row" = some m.cls := hown
  have hH : Hold classes BW D (TY cB cI cJ) p s m c b_Row_at 3 "PictureFile$Row" := ⟨bw_ok, hx, hb, hml, hown, hK⟩
  have hw : ∀ {w : Cond}, w ∈ BW → w.before ([.ref h0, .long p0] : List Value).toArray s = true := fun h => Wd.at bw_ok hK.2 h
  have hl : lv_has ls 3 [(0, .ref h0), (1, .long p0)] := hl
  have bo0ro := RowOK.le hro
  refine lv_lload_n hx hb d_Row_at_0 rfl (lv_at hl 1 rfl) ?_
  refine lv_lconst (v := 0) hx hb d_Row_at_1 (by decide) ?_
  refine W.lcmp hx hb d_Row_at_2 ?_
  refine lv_if_lt (tgt := 41) hx hb d_Row_at_3 (by decide) (fun c_1 => ?_) (fun c_1 => ?_)
  · refine lv_iconst (v := 0) hx hb d_Row_at_41 (by decide) ?_
    have ef : M_Row_at ro p0 = 0 := by unfold M_Row_at; (try dsimp only); rw [if_pos c_1]
    exact ct_piret hx hb hr rfl hlocks d_Row_at_42 hQ hS (by rw [ef])
  · refine lv_lload_n hx hb d_Row_at_6 rfl (lv_at hl 1 rfl) ?_
    refine lv_aload_n hx hb d_Row_at_7 rfl (lv_at hl 0 rfl) ?_
    refine va_get (D := D) (ci := 0) (C := R_Row) (T := F_Row) (N := 2) hx hb (kl_Row hK.2) (fun _ h => h) hown hK.1 hP 0 rfl rfl 1 (by decide) (hw kw_11) (fun _ h9 => h9) rfl d_Row_at_8 ?_
    refine lv_i2l hx hb d_Row_at_11 rfl ?_
    refine W.lcmp hx hb d_Row_at_12 ?_
    refine lv_if_ge (tgt := 41) hx hb d_Row_at_13 (by decide) (fun c_2 => ?_) (fun c_2 => ?_)
    · refine lv_iconst (v := 0) hx hb d_Row_at_41 (by decide) ?_
      have ef : M_Row_at ro p0 = 0 := by unfold M_Row_at; (try dsimp only); rw [if_neg c_1]; rw [if_pos c_2]
      exact ct_piret hx hb hr rfl hlocks d_Row_at_42 hQ hS (by rw [ef])
    · refine lv_lload_n hx hb d_Row_at_16 rfl (lv_at hl 1 rfl) ?_
      refine lv_aload_n hx hb d_Row_at_17 rfl (lv_at hl 0 rfl) ?_
      refine va_get (D := D) (ci := 0) (C := R_Row) (T := F_Row) (N := 2) hx hb (kl_Row hK.2) (fun _ h => h) hown hK.1 hP 0 rfl rfl 0 (by decide) (hw kw_12) (fun _ h9 => h9) rfl d_Row_at_18 ?_
      refine va_alen (v := nI ro.1) hx hb hK.1 hP 1 0 rfl rfl rfl d_Row_at_21 ?_
      refine lv_i2l hx hb d_Row_at_22 rfl ?_
      refine W.lcmp hx hb d_Row_at_23 ?_
      refine lv_if_ge (tgt := 41) hx hb d_Row_at_24 (by decide) (fun c_3 => ?_) (fun c_3 => ?_)
      · refine lv_iconst (v := 0) hx hb d_Row_at_41 (by decide) ?_
        have ef : M_Row_at ro p0 = 0 := by unfold M_Row_at; (try dsimp only); rw [if_neg c_1]; rw [if_neg c_2]; rw [if_pos c_3]
        exact ct_piret hx hb hr rfl hlocks d_Row_at_42 hQ hS (by rw [ef])
      · refine lv_aload_n hx hb d_Row_at_27 rfl (lv_at hl 0 rfl) ?_
        refine va_get (D := D) (ci := 0) (C := R_Row) (T := F_Row) (N := 2) hx hb (kl_Row hK.2) (fun _ h => h) hown hK.1 hP 0 rfl rfl 0 (by decide) (hw kw_12) (fun _ h9 => h9) rfl d_Row_at_28 ?_
        refine lv_lload_n hx hb d_Row_at_31 rfl (lv_at hl 1 rfl) ?_
        refine lv_l2i hx hb d_Row_at_32 rfl ?_
        refine va_bald hx hb hK.1 hP 1 0 rfl rfl (vp_long c_1 c_3 (by omega)) d_Row_at_33 ?_
        refine lv_sipush (v := 255) hx hb d_Row_at_34 (by decide) ?_
        refine lv_iand hx hb d_Row_at_37 ?_
        refine lv_goto (tgt := 42) hx hb d_Row_at_38 (by decide) ?_
        have ef : M_Row_at ro p0 = ((ro.2.1 p0.toInt32.toNatClampNeg) &&& 255) := by unfold M_Row_at; (try dsimp only); rw [if_neg c_1]; rw [if_neg c_2]; rw [if_neg c_3]
        exact ct_piret hx hb hr rfl hlocks d_Row_at_42 hQ hS (by rw [ef])
set_option maxHeartbeats 4000000 in
set_option maxRecDepth 100000 in
theorem c_Row_shiftOf {l : Launch} {D : va_G} {cB cI cJ : ClassId} (p0 : Int32) (p1 : Int32) (p2 : Int32) : CtP classes BW l D (TY cB cI cJ) y_Row_shiftOf b_Row_shiftOf 3 (some .int) ({ frames := 0, cells := 0, slots := 0, locals := 0 } : Room) [.int p0, .int p1, .int p2] [] (some (.int (M_Row_shiftOf p0 p1 p2))) := by
  refine CtP.intro (by decide +kernel) (Nat.le_of_ble_eq_true rfl) ?_
  intro p e s m below meth c hx hb hr hml hlocks hnm hown hK hS hP hD ls hl Q hQ
  have hown : s.vm.findClass "PictureFile$Row" = some m.cls := hown
  have hH : Hold classes BW D (TY cB cI cJ) p s m c b_Row_shiftOf 3 "PictureFile$Row" := ⟨bw_ok, hx, hb, hml, hown, hK⟩
  have hw : ∀ {w : Cond}, w ∈ BW → w.before ([.int p0, .int p1, .int p2] : List Value).toArray s = true := fun h => Wd.at bw_ok hK.2 h
  have hl : lv_has ls 3 [(0, .int p0), (1, .int p1), (2, .int p2)] := hl
  refine lv_bipush (v := 8) hx hb d_Row_shiftOf_0 (by decide) ?_
  refine lv_iload_n hx hb d_Row_shiftOf_2 rfl (lv_at hl 2 rfl) ?_
  refine lv_bipush (v := 77) hx hb d_Row_shiftOf_3 (by decide) ?_
  refine lv_icmp_ne (tgt := 16) hx hb d_Row_shiftOf_5 (by decide) (fun c_1 => ?_) (fun c_1 => ?_)
  · refine lv_iload_n hx hb d_Row_shiftOf_16 rfl (lv_at hl 0 rfl) ?_
    refine lv_imul hx hb d_Row_shiftOf_17 ?_
    have ef : M_Row_shiftOf p0 p1 p2 = (8 * p0) := by unfold M_Row_shiftOf; (try dsimp only); rw [if_neg c_1]
    exact ct_piret hx hb hr rfl hlocks d_Row_shiftOf_18 hQ hS (by rw [ef])
  · refine lv_iload_n hx hb d_Row_shiftOf_8 rfl (lv_at hl 1 rfl) ?_
    refine lv_iconst (v := 1) hx hb d_Row_shiftOf_9 (by decide) ?_
    refine lv_isub hx hb d_Row_shiftOf_10 ?_
    refine lv_iload_n hx hb d_Row_shiftOf_11 rfl (lv_at hl 0 rfl) ?_
    refine lv_isub hx hb d_Row_shiftOf_12 ?_
    refine lv_goto (tgt := 17) hx hb d_Row_shiftOf_13 (by decide) ?_
    refine lv_imul hx hb d_Row_shiftOf_17 ?_
    have ef : M_Row_shiftOf p0 p1 p2 = (8 * ((p1 - 1) - p0)) := by unfold M_Row_shiftOf; (try dsimp only); rw [if_pos c_1]
    exact ct_piret hx hb hr rfl hlocks d_Row_shiftOf_18 hQ hS (by rw [ef])
set_option maxHeartbeats 4000000 in
set_option maxRecDepth 100000 in
theorem c_Row_replace {l : Launch} {D : va_G} {cB cI cJ : ClassId} (h0 h1 : Nat) (ro : RowS) (hro : RowOK ro) (p0 : Int32) (p1 : Int32) : Ct classes BW l D (TY cB cI cJ) y_Row_replace b_Row_replace 3 none ({ frames := 0, cells := 0, slots := 0, locals := 0 } : Room) [.ref h0, .int p0, .int p1] [(h0, .inr (0, [.ref h1, .int ro.2.2])), (h1, .inl (cB, ro.1, .inl ro.2.1))] (fun u : Nat × RowS => u.2 = M_Row_replace ro p0 p1 ∧ RowOK u.2 ∧ ro.1 ≤ u.2.1) (fun u => none) (fun u => [(h0, .inr (0, [.ref u.1, .int u.2.2.2])), (u.1, .inl (cB, u.2.1, .inl u.2.2.1))]) (gC 1024 ro.1 (M_Row_replace ro p0 p1).1) (gS ro.1 (M_Row_replace ro p0 p1).1) := by
  refine Ct.intro (by decide +kernel) (Nat.le_of_ble_eq_true rfl) ?_
  intro p e s m below meth c hx hb hr hml hlocks hnm hown hK A hAe hA hS hP hD ls hl Q hQ
  have hown : s.vm.findClass "PictureFile$Row" = some m.cls := hown
  have hH : Hold classes BW D (TY cB cI cJ) p s m c b_Row_replace 3 "PictureFile$Row" := ⟨bw_ok, hx, hb, hml, hown, hK⟩
  have hw : ∀ {w : Cond}, w ∈ BW → w.before ([.ref h0, .int p0, .int p1] : List Value).toArray s = true := fun h => Wd.at bw_ok hK.2 h
  have hl : lv_has ls 3 [(0, .ref h0), (1, .int p0), (2, .int p1)] := hl
  have bo0ro := RowOK.le hro
  refine lv_iload_n hx hb d_Row_replace_0 rfl (lv_at hl 1 rfl) ?_
  refine lv_if_lt (tgt := 29) hx hb d_Row_replace_1 (by decide) (fun c_1 => ?_) (fun c_1 => ?_)
  · have ef : M_Row_replace ro p0 p1 = ro := by unfold M_Row_replace; (try dsimp only); rw [if_pos c_1]
    exact ct_vret hx hb hr hlocks d_Row_replace_29 ⟨Nat.zero_le _, Nat.zero_le _⟩ hQ hAe hS (h1, ro) rfl ⟨ef.symm, (by have h9 := ok_Row_replace hro p0 p1; rw [ef] at h9; exact h9), (by have h9 := mo_Row_replace hro p0 p1; rw [ef] at h9; exact h9)⟩ (hP.sub [0, 1] rfl) (hD.sub [0, 1] rfl rfl)
  · refine lv_iload_n hx hb d_Row_replace_4 rfl (lv_at hl 1 rfl) ?_
    refine lv_aload_n hx hb d_Row_replace_5 rfl (lv_at hl 0 rfl) ?_
    refine va_get (D := D) (ci := 0) (C := R_Row) (T := F_Row) (N := 2) hx hb (kl_Row hK.2) (fun _ h => h) hown hK.1 hP 0 rfl rfl 1 (by decide) (hw kw_11) (fun _ h9 => h9) rfl d_Row_replace_6 ?_
    refine lv_icmp_ge (tgt := 29) hx hb d_Row_replace_9 (by decide) (fun c_2 => ?_) (fun c_2 => ?_)
    · have ef : M_Row_replace ro p0 p1 = ro := by unfold M_Row_replace; (try dsimp only); rw [if_neg c_1]; rw [if_pos c_2]
      exact ct_vret hx hb hr hlocks d_Row_replace_29 ⟨Nat.zero_le _, Nat.zero_le _⟩ hQ hAe hS (h1, ro) rfl ⟨ef.symm, (by have h9 := ok_Row_replace hro p0 p1; rw [ef] at h9; exact h9), (by have h9 := mo_Row_replace hro p0 p1; rw [ef] at h9; exact h9)⟩ (hP.sub [0, 1] rfl) (hD.sub [0, 1] rfl rfl)
    · refine lv_iload_n hx hb d_Row_replace_12 rfl (lv_at hl 1 rfl) ?_
      refine lv_aload_n hx hb d_Row_replace_13 rfl (lv_at hl 0 rfl) ?_
      refine va_get (D := D) (ci := 0) (C := R_Row) (T := F_Row) (N := 2) hx hb (kl_Row hK.2) (fun _ h => h) hown hK.1 hP 0 rfl rfl 0 (by decide) (hw kw_12) (fun _ h9 => h9) rfl d_Row_replace_14 ?_
      refine va_alen (v := nI ro.1) hx hb hK.1 hP 1 0 rfl rfl rfl d_Row_replace_17 ?_
      refine lv_icmp_ge (tgt := 29) hx hb d_Row_replace_18 (by decide) (fun c_3 => ?_) (fun c_3 => ?_)
      · have ef : M_Row_replace ro p0 p1 = ro := by unfold M_Row_replace; (try dsimp only); rw [if_neg c_1]; rw [if_neg c_2]; rw [if_pos c_3]
        exact ct_vret hx hb hr hlocks d_Row_replace_29 ⟨Nat.zero_le _, Nat.zero_le _⟩ hQ hAe hS (h1, ro) rfl ⟨ef.symm, (by have h9 := ok_Row_replace hro p0 p1; rw [ef] at h9; exact h9), (by have h9 := mo_Row_replace hro p0 p1; rw [ef] at h9; exact h9)⟩ (hP.sub [0, 1] rfl) (hD.sub [0, 1] rfl rfl)
      · refine lv_aload_n hx hb d_Row_replace_21 rfl (lv_at hl 0 rfl) ?_
        refine va_get (D := D) (ci := 0) (C := R_Row) (T := F_Row) (N := 2) hx hb (kl_Row hK.2) (fun _ h => h) hown hK.1 hP 0 rfl rfl 0 (by decide) (hw kw_12) (fun _ h9 => h9) rfl d_Row_replace_22 ?_
        refine lv_iload_n hx hb d_Row_replace_25 rfl (lv_at hl 1 rfl) ?_
        refine lv_iload_n hx hb d_Row_replace_26 rfl (lv_at hl 2 rfl) ?_
        refine lv_i2b hx hb d_Row_replace_27 rfl ?_
        refine va_bast hx hb hK.1 hP hD hS 1 0 rfl rfl (vp_int c_1 c_3 (by omega)) d_Row_replace_28 (fun H locs hP hD hS => ?_)
        have hP : va_P D classes [(h0, .inr (0, [.ref h1, .int ro.2.2])), (h1, .inl (cB, ro.1, .inl (upd ro.2.1 p0.toNatClampNeg (vp_nar .byte p1.toInt8.toInt32))))] H := hP
        have hD : va_D A [(h0, .inr (0, [.ref h1, .int ro.2.2])), (h1, .inl (cB, ro.1, .inl (upd ro.2.1 p0.toNatClampNeg (vp_nar .byte p1.toInt8.toInt32))))] := hD
        have ef : M_Row_replace ro p0 p1 = (ro.1, (upd ro.2.1 p0.toNatClampNeg (vp_nar .byte p1.toInt8.toInt32)), ro.2.2) := by unfold M_Row_replace; (try dsimp only); rw [if_neg c_1]; rw [if_neg c_2]; rw [if_neg c_3]
        exact ct_vret hx hb hr hlocks d_Row_replace_29 ⟨Nat.zero_le _, Nat.zero_le _⟩ hQ hAe hS (h1, (ro.1, (upd ro.2.1 p0.toNatClampNeg (vp_nar .byte p1.toInt8.toInt32)), ro.2.2)) rfl ⟨ef.symm, (by have h9 := ok_Row_replace hro p0 p1; rw [ef] at h9; exact h9), (by have h9 := mo_Row_replace hro p0 p1; rw [ef] at h9; exact h9)⟩ (hP.sub [0, 1] rfl) (hD.sub [0, 1] rfl rfl)
set_option maxHeartbeats 4000000 in
set_option maxRecDepth 100000 in
theorem c_Row_add {l : Launch} {D : va_G} {cB cI cJ : ClassId} (h0 h1 : Nat) (ro : RowS) (hro : RowOK ro) (p0 : Int32) : Ct classes BW l D (TY cB cI cJ) y_Row_add b_Row_add 2 none ({ frames := 2, cells := 1, slots := 65536, locals := 82 } : Room) [.ref h0, .int p0] [(h0, .inr (0, [.ref h1, .int ro.2.2])), (h1, .inl (cB, ro.1, .inl ro.2.1))] (fun u : Nat × RowS => u.2 = M_Row_add ro p0 ∧ RowOK u.2 ∧ ro.1 ≤ u.2.1) (fun u => none) (fun u => [(h0, .inr (0, [.ref u.1, .int u.2.2.2])), (u.1, .inl (cB, u.2.1, .inl u.2.2.1))]) (gC 1024 ro.1 (M_Row_add ro p0).1) (gS ro.1 (M_Row_add ro p0).1) := by
  refine Ct.intro (by decide +kernel) (Nat.le_of_ble_eq_true rfl) ?_
  intro p e s m below meth c hx hb hr hml hlocks hnm hown hK A hAe hA hS hP hD ls hl Q hQ
  have hown : s.vm.findClass "PictureFile$Row" = some m.cls := hown
  have hH : Hold classes BW D (TY cB cI cJ) p s m c b_Row_add 2 "PictureFile$Row" := ⟨bw_ok, hx, hb, hml, hown, hK⟩
  have hw : ∀ {w : Cond}, w ∈ BW → w.before ([.ref h0, .int p0] : List Value).toArray s = true := fun h => Wd.at bw_ok hK.2 h
  have hl : lv_has ls 2 [(0, .ref h0), (1, .int p0)] := hl
  have bo0ro := RowOK.le hro
  refine lv_aload_n hx hb d_Row_add_0 rfl (lv_at hl 0 rfl) ?_
  refine va_get (D := D) (ci := 0) (C := R_Row) (T := F_Row) (N := 2) hx hb (kl_Row hK.2) (fun _ h => h) hown hK.1 hP 0 rfl rfl 1 (by decide) (hw kw_11) (fun _ h9 => h9) rfl d_Row_add_1 ?_
  refine lv_aload_n hx hb d_Row_add_4 rfl (lv_at hl 0 rfl) ?_
  refine va_get (D := D) (ci := 0) (C := R_Row) (T := F_Row) (N := 2) hx hb (kl_Row hK.2) (fun _ h => h) hown hK.1 hP 0 rfl rfl 0 (by decide) (hw kw_12) (fun _ h9 => h9) rfl d_Row_add_5 ?_
  refine va_alen (v := nI ro.1) hx hb hK.1 hP 1 0 rfl rfl rfl d_Row_add_8 ?_
  refine lv_icmp_lt (tgt := 43) hx hb d_Row_add_9 (by decide) (fun c_1 => ?_) (fun c_1 => ?_)
  · refine lv_aload_n hx hb d_Row_add_43 rfl (lv_at hl 0 rfl) ?_
    refine va_get (D := D) (ci := 0) (C := R_Row) (T := F_Row) (N := 2) hx hb (kl_Row hK.2) (fun _ h => h) hown hK.1 hP 0 rfl rfl 1 (by decide) (hw kw_11) (fun _ h9 => h9) rfl d_Row_add_44 ?_
    refine lv_if_lt (tgt := 83) hx hb d_Row_add_47 (by decide) (fun c_2 => ?_) (fun c_2 => ?_)
    · have ef : M_Row_add ro p0 = ro := by unfold M_Row_add; (try dsimp only); rw [if_pos c_1]; rw [if_pos c_2]
      exact ct_vret hx hb hr hlocks d_Row_add_83 ⟨Nat.zero_le _, Nat.zero_le _⟩ hQ hAe hS (h1, ro) rfl ⟨ef.symm, (by have h9 := ok_Row_add hro p0; rw [ef] at h9; exact h9), (by have h9 := mo_Row_add hro p0; rw [ef] at h9; exact h9)⟩ (hP.sub [0, 1] rfl) (hD.sub [0, 1] rfl rfl)
    · refine lv_aload_n hx hb d_Row_add_50 rfl (lv_at hl 0 rfl) ?_
      refine va_get (D := D) (ci := 0) (C := R_Row) (T := F_Row) (N := 2) hx hb (kl_Row hK.2) (fun _ h => h) hown hK.1 hP 0 rfl rfl 1 (by decide) (hw kw_11) (fun _ h9 => h9) rfl d_Row_add_51 ?_
      refine lv_aload_n hx hb d_Row_add_54 rfl (lv_at hl 0 rfl) ?_
      refine va_get (D := D) (ci := 0) (C := R_Row) (T := F_Row) (N := 2) hx hb (kl_Row hK.2) (fun _ h => h) hown hK.1 hP 0 rfl rfl 0 (by decide) (hw kw_12) (fun _ h9 => h9) rfl d_Row_add_55 ?_
      refine va_alen (v := nI ro.1) hx hb hK.1 hP 1 0 rfl rfl rfl d_Row_add_58 ?_
      refine lv_icmp_ge (tgt := 83) hx hb d_Row_add_59 (by decide) (fun c_3 => ?_) (fun c_3 => ?_)
      · have ef : M_Row_add ro p0 = ro := by unfold M_Row_add; (try dsimp only); rw [if_pos c_1]; rw [if_neg c_2]; rw [if_pos c_3]
        exact ct_vret hx hb hr hlocks d_Row_add_83 ⟨Nat.zero_le _, Nat.zero_le _⟩ hQ hAe hS (h1, ro) rfl ⟨ef.symm, (by have h9 := ok_Row_add hro p0; rw [ef] at h9; exact h9), (by have h9 := mo_Row_add hro p0; rw [ef] at h9; exact h9)⟩ (hP.sub [0, 1] rfl) (hD.sub [0, 1] rfl rfl)
      · refine lv_aload_n hx hb d_Row_add_62 rfl (lv_at hl 0 rfl) ?_
        refine va_get (D := D) (ci := 0) (C := R_Row) (T := F_Row) (N := 2) hx hb (kl_Row hK.2) (fun _ h => h) hown hK.1 hP 0 rfl rfl 0 (by decide) (hw kw_12) (fun _ h9 => h9) rfl d_Row_add_63 ?_
        refine lv_aload_n hx hb d_Row_add_66 rfl (lv_at hl 0 rfl) ?_
        refine va_get (D := D) (ci := 0) (C := R_Row) (T := F_Row) (N := 2) hx hb (kl_Row hK.2) (fun _ h => h) hown hK.1 hP 0 rfl rfl 1 (by decide) (hw kw_11) (fun _ h9 => h9) rfl d_Row_add_67 ?_
        refine lv_iload_n hx hb d_Row_add_70 rfl (lv_at hl 1 rfl) ?_
        refine lv_i2b hx hb d_Row_add_71 rfl ?_
        refine va_bast hx hb hK.1 hP hD hS 1 0 rfl rfl (vp_int c_2 c_3 (by omega)) d_Row_add_72 (fun H locs hP hD hS => ?_)
        have hP : va_P D classes [(h0, .inr (0, [.ref h1, .int ro.2.2])), (h1, .inl (cB, ro.1, .inl (upd ro.2.1 ro.2.2.toNatClampNeg (vp_nar .byte p0.toInt8.toInt32))))] H := hP
        have hD : va_D A [(h0, .inr (0, [.ref h1, .int ro.2.2])), (h1, .inl (cB, ro.1, .inl (upd ro.2.1 ro.2.2.toNatClampNeg (vp_nar .byte p0.toInt8.toInt32))))] := hD
        refine lv_aload_n hx hb d_Row_add_73 rfl (lv_at hl 0 rfl) ?_
        refine lv_dup hx hb d_Row_add_74 rfl ?_
        refine va_get (D := D) (ci := 0) (C := R_Row) (T := F_Row) (N := 2) hx hb (kl_Row hK.2) (fun _ h => h) hown hK.1 hP 0 rfl rfl 1 (by decide) (hw kw_11) (fun _ h9 => h9) rfl d_Row_add_75 ?_
        refine lv_iconst (v := 1) hx hb d_Row_add_78 (by decide) ?_
        refine lv_iadd hx hb d_Row_add_79 ?_
        refine lv_topi (fun y1 e1 => ?_)
        refine va_put (D := D) (ci := 0) (v := .int y1) (ty := .int) (C := R_Row) (T := F_Row) (N := 2) hx hb (kl_Row hK.2) (fun _ h => h) t_Row t_Row_ok n_Row hown hK.1 hP hD hS 0 rfl rfl 1 (by decide) (hw kw_11) (fun _ h9 => h9) rfl (t_Row_ok 1 (by decide)) rfl rfl (Nat.le_of_ble_eq_true rfl) d_Row_add_80 (fun H locs hP hD hS => ?_)
        have hP : va_P D classes [(h0, .inr (0, [.ref h1, .int y1])), (h1, .inl (cB, ro.1, .inl (upd ro.2.1 ro.2.2.toNatClampNeg (vp_nar .byte p0.toInt8.toInt32))))] H := hP
        have hD : va_D A [(h0, .inr (0, [.ref h1, .int y1])), (h1, .inl (cB, ro.1, .inl (upd ro.2.1 ro.2.2.toNatClampNeg (vp_nar .byte p0.toInt8.toInt32))))] := hD
        have ef : M_Row_add ro p0 = (ro.1, (upd ro.2.1 ro.2.2.toNatClampNeg (vp_nar .byte p0.toInt8.toInt32)), y1) := by unfold M_Row_add; (try dsimp only); rw [if_pos c_1]; rw [if_neg c_2]; rw [if_neg c_3]; (try rw [← e1])
        exact ct_vret hx hb hr hlocks d_Row_add_83 ⟨Nat.zero_le _, Nat.zero_le _⟩ hQ hAe hS (h1, (ro.1, (upd ro.2.1 ro.2.2.toNatClampNeg (vp_nar .byte p0.toInt8.toInt32)), y1)) rfl ⟨ef.symm, (by have h9 := ok_Row_add hro p0; rw [ef] at h9; exact h9), (by have h9 := mo_Row_add hro p0; rw [ef] at h9; exact h9)⟩ (hP.sub [0, 1] rfl) (hD.sub [0, 1] rfl rfl)
  · refine lv_aload_n hx hb d_Row_add_12 rfl (lv_at hl 0 rfl) ?_
    refine va_get (D := D) (ci := 0) (C := R_Row) (T := F_Row) (N := 2) hx hb (kl_Row hK.2) (fun _ h => h) hown hK.1 hP 0 rfl rfl 1 (by decide) (hw kw_11) (fun _ h9 => h9) rfl d_Row_add_13 ?_
    refine lv_ldc (v := 65536) hx hb hown (hw kw_13) d_Row_add_16 ?_
    refine lv_icmp_ge (tgt := 43) hx hb d_Row_add_18 (by decide) (fun c_4 => ?_) (fun c_4 => ?_)
    · refine lv_aload_n hx hb d_Row_add_43 rfl (lv_at hl 0 rfl) ?_
      refine va_get (D := D) (ci := 0) (C := R_Row) (T := F_Row) (N := 2) hx hb (kl_Row hK.2) (fun _ h => h) hown hK.1 hP 0 rfl rfl 1 (by decide) (hw kw_11) (fun _ h9 => h9) rfl d_Row_add_44 ?_
      refine lv_if_lt (tgt := 83) hx hb d_Row_add_47 (by decide) (fun c_5 => ?_) (fun c_5 => ?_)
      · have ef : M_Row_add ro p0 = ro := by unfold M_Row_add; (try dsimp only); rw [if_neg c_1]; rw [if_pos c_4]; rw [if_pos c_5]
        exact ct_vret hx hb hr hlocks d_Row_add_83 ⟨Nat.zero_le _, Nat.zero_le _⟩ hQ hAe hS (h1, ro) rfl ⟨ef.symm, (by have h9 := ok_Row_add hro p0; rw [ef] at h9; exact h9), (by have h9 := mo_Row_add hro p0; rw [ef] at h9; exact h9)⟩ (hP.sub [0, 1] rfl) (hD.sub [0, 1] rfl rfl)
      · refine lv_aload_n hx hb d_Row_add_50 rfl (lv_at hl 0 rfl) ?_
        refine va_get (D := D) (ci := 0) (C := R_Row) (T := F_Row) (N := 2) hx hb (kl_Row hK.2) (fun _ h => h) hown hK.1 hP 0 rfl rfl 1 (by decide) (hw kw_11) (fun _ h9 => h9) rfl d_Row_add_51 ?_
        refine lv_aload_n hx hb d_Row_add_54 rfl (lv_at hl 0 rfl) ?_
        refine va_get (D := D) (ci := 0) (C := R_Row) (T := F_Row) (N := 2) hx hb (kl_Row hK.2) (fun _ h => h) hown hK.1 hP 0 rfl rfl 0 (by decide) (hw kw_12) (fun _ h9 => h9) rfl d_Row_add_55 ?_
        refine va_alen (v := nI ro.1) hx hb hK.1 hP 1 0 rfl rfl rfl d_Row_add_58 ?_
        refine lv_icmp_ge (tgt := 83) hx hb d_Row_add_59 (by decide) (fun c_6 => ?_) (fun c_6 => ?_)
        · have ef : M_Row_add ro p0 = ro := by unfold M_Row_add; (try dsimp only); rw [if_neg c_1]; rw [if_pos c_4]; rw [if_neg c_5]; rw [if_pos c_6]
          exact ct_vret hx hb hr hlocks d_Row_add_83 ⟨Nat.zero_le _, Nat.zero_le _⟩ hQ hAe hS (h1, ro) rfl ⟨ef.symm, (by have h9 := ok_Row_add hro p0; rw [ef] at h9; exact h9), (by have h9 := mo_Row_add hro p0; rw [ef] at h9; exact h9)⟩ (hP.sub [0, 1] rfl) (hD.sub [0, 1] rfl rfl)
        · refine lv_aload_n hx hb d_Row_add_62 rfl (lv_at hl 0 rfl) ?_
          refine va_get (D := D) (ci := 0) (C := R_Row) (T := F_Row) (N := 2) hx hb (kl_Row hK.2) (fun _ h => h) hown hK.1 hP 0 rfl rfl 0 (by decide) (hw kw_12) (fun _ h9 => h9) rfl d_Row_add_63 ?_
          refine lv_aload_n hx hb d_Row_add_66 rfl (lv_at hl 0 rfl) ?_
          refine va_get (D := D) (ci := 0) (C := R_Row) (T := F_Row) (N := 2) hx hb (kl_Row hK.2) (fun _ h => h) hown hK.1 hP 0 rfl rfl 1 (by decide) (hw kw_11) (fun _ h9 => h9) rfl d_Row_add_67 ?_
          refine lv_iload_n hx hb d_Row_add_70 rfl (lv_at hl 1 rfl) ?_
          refine lv_i2b hx hb d_Row_add_71 rfl ?_
          refine va_bast hx hb hK.1 hP hD hS 1 0 rfl rfl (vp_int c_5 c_6 (by omega)) d_Row_add_72 (fun H locs hP hD hS => ?_)
          have hP : va_P D classes [(h0, .inr (0, [.ref h1, .int ro.2.2])), (h1, .inl (cB, ro.1, .inl (upd ro.2.1 ro.2.2.toNatClampNeg (vp_nar .byte p0.toInt8.toInt32))))] H := hP
          have hD : va_D A [(h0, .inr (0, [.ref h1, .int ro.2.2])), (h1, .inl (cB, ro.1, .inl (upd ro.2.1 ro.2.2.toNatClampNeg (vp_nar .byte p0.toInt8.toInt32))))] := hD
          refine lv_aload_n hx hb d_Row_add_73 rfl (lv_at hl 0 rfl) ?_
          refine lv_dup hx hb d_Row_add_74 rfl ?_
          refine va_get (D := D) (ci := 0) (C := R_Row) (T := F_Row) (N := 2) hx hb (kl_Row hK.2) (fun _ h => h) hown hK.1 hP 0 rfl rfl 1 (by decide) (hw kw_11) (fun _ h9 => h9) rfl d_Row_add_75 ?_
          refine lv_iconst (v := 1) hx hb d_Row_add_78 (by decide) ?_
          refine lv_iadd hx hb d_Row_add_79 ?_
          refine lv_topi (fun y2 e2 => ?_)
          refine va_put (D := D) (ci := 0) (v := .int y2) (ty := .int) (C := R_Row) (T := F_Row) (N := 2) hx hb (kl_Row hK.2) (fun _ h => h) t_Row t_Row_ok n_Row hown hK.1 hP hD hS 0 rfl rfl 1 (by decide) (hw kw_11) (fun _ h9 => h9) rfl (t_Row_ok 1 (by decide)) rfl rfl (Nat.le_of_ble_eq_true rfl) d_Row_add_80 (fun H locs hP hD hS => ?_)
          have hP : va_P D classes [(h0, .inr (0, [.ref h1, .int y2])), (h1, .inl (cB, ro.1, .inl (upd ro.2.1 ro.2.2.toNatClampNeg (vp_nar .byte p0.toInt8.toInt32))))] H := hP
          have hD : va_D A [(h0, .inr (0, [.ref h1, .int y2])), (h1, .inl (cB, ro.1, .inl (upd ro.2.1 ro.2.2.toNatClampNeg (vp_nar .byte p0.toInt8.toInt32))))] := hD
          have ef : M_Row_add ro p0 = (ro.1, (upd ro.2.1 ro.2.2.toNatClampNeg (vp_nar .byte p0.toInt8.toInt32)), y2) := by unfold M_Row_add; (try dsimp only); rw [if_neg c_1]; rw [if_pos c_4]; rw [if_neg c_5]; rw [if_neg c_6]; (try rw [← e2])
          exact ct_vret hx hb hr hlocks d_Row_add_83 ⟨Nat.zero_le _, Nat.zero_le _⟩ hQ hAe hS (h1, (ro.1, (upd ro.2.1 ro.2.2.toNatClampNeg (vp_nar .byte p0.toInt8.toInt32)), y2)) rfl ⟨ef.symm, (by have h9 := ok_Row_add hro p0; rw [ef] at h9; exact h9), (by have h9 := mo_Row_add hro p0; rw [ef] at h9; exact h9)⟩ (hP.sub [0, 1] rfl) (hD.sub [0, 1] rfl rfl)
    · refine lv_aload_n hx hb d_Row_add_21 rfl (lv_at hl 0 rfl) ?_
      refine lv_aload_n hx hb d_Row_add_22 rfl (lv_at hl 0 rfl) ?_
      refine va_get (D := D) (ci := 0) (C := R_Row) (T := F_Row) (N := 2) hx hb (kl_Row hK.2) (fun _ h => h) hown hK.1 hP 0 rfl rfl 0 (by decide) (hw kw_12) (fun _ h9 => h9) rfl d_Row_add_23 ?_
      refine lv_iconst (v := 2) hx hb d_Row_add_26 (by decide) ?_
      refine lv_aload_n hx hb d_Row_add_27 rfl (lv_at hl 0 rfl) ?_
      refine va_get (D := D) (ci := 0) (C := R_Row) (T := F_Row) (N := 2) hx hb (kl_Row hK.2) (fun _ h => h) hown hK.1 hP 0 rfl rfl 1 (by decide) (hw kw_11) (fun _ h9 => h9) rfl d_Row_add_28 ?_
      refine lv_imul hx hb d_Row_add_31 ?_
      refine lv_ldc (v := 65536) hx hb hown (hw kw_13) d_Row_add_32 ?_
      refine va_mmin hx hb (hml.trans hl.1.symm) hown (hw kw_14) (hw kw_15) (hw kw_16) (hw kw_17) (Nat.le_of_ble_eq_true rfl) (Nat.le_of_ble_eq_true rfl) (Nat.le_of_ble_eq_true rfl)  (Nat.le_of_ble_eq_true rfl) d_Row_add_34 ?_
      obtain ⟨hN0, hN1, hN2, hN3⟩ := row_grow hro c_1 c_4
      refine ct_fin (wr := [(h0, .inr (0, [.ref h1, .int ro.2.2]))]) (ct_runS (n := 2) (As := [.ref h1, .int (if 65536 < (2 * ro.2.2) then 65536 else (2 * ro.2.2))]) (rest := [.ref h0]) hH (c_copyOfB h1 ro.1 ro.2.1 (if 65536 < (2 * ro.2.2) then 65536 else (2 * ro.2.2)) (by omega) (fun j => hro.2.2 j) hN0 (by omega) hN3 _) ⟨cal_copyOfB, ⟨Nat.le_of_ble_eq_true rfl, Nat.le_of_ble_eq_true rfl⟩, (Nat.le_of_ble_eq_true rfl), (by show 0 + (if 65536 < (2 * ro.2.2) then 65536 else (2 * ro.2.2)).toNatClampNeg ≤ 65536; omega)⟩ kw_18 kw_19 kw_20 kw_21 (hP.sub (ws' := [(h1, .inl (cB, ro.1, .inl ro.2.1))]) [1] rfl) (hD.sub (ws' := [(h1, .inl (cB, ro.1, .inl ro.2.1))]) [1] rfl rfl) rfl hl.1 (Nat.le_of_ble_eq_true rfl) d_Row_add_37) hP hD hS hA [1] [0] rfl rfl rfl (by decide) (fun qn H locs hp hP hD hS => ?_)
      have hP : va_P D classes [(h0, .inr (0, [.ref h1, .int ro.2.2])), (h1, .inl (cB, ro.1, .inl ro.2.1)), (qn, .inl (cB, (if 65536 < (2 * ro.2.2) then 65536 else (2 * ro.2.2)).toNatClampNeg, .inl (cpyN ro.2.1 ro.1 (if 65536 < (2 * ro.2.2) then 65536 else (2 * ro.2.2)))))] H := hP
      have hD : va_D A [(h0, .inr (0, [.ref h1, .int ro.2.2])), (h1, .inl (cB, ro.1, .inl ro.2.1)), (qn, .inl (cB, (if 65536 < (2 * ro.2.2) then 65536 else (2 * ro.2.2)).toNatClampNeg, .inl (cpyN ro.2.1 ro.1 (if 65536 < (2 * ro.2.2) then 65536 else (2 * ro.2.2)))))] := hD
      refine W.widen (k := 1) (n := (if 65536 < (2 * ro.2.2) then 65536 else (2 * ro.2.2)).toNatClampNeg) (by decide) (by omega) ?_
      refine W.eq (g2 := F0 m 40 ls [.ref qn, .ref h0]) rfl ?_
      refine va_put (D := D) (ci := 0) (v := .ref qn) (ty := .array .byte) (C := R_Row) (T := F_Row) (N := 2) hx hb (kl_Row hK.2) (fun _ h => h) t_Row t_Row_ok n_Row hown hK.1 hP hD hS 0 rfl rfl 0 (by decide) (hw kw_12) (fun _ h9 => h9) rfl (t_Row_ok 0 (by decide)) rfl rfl (Nat.le_of_ble_eq_true rfl) d_Row_add_40 (fun H locs hP hD hS => ?_)
      have hP : va_P D classes [(h0, .inr (0, [.ref qn, .int ro.2.2])), (h1, .inl (cB, ro.1, .inl ro.2.1)), (qn, .inl (cB, (if 65536 < (2 * ro.2.2) then 65536 else (2 * ro.2.2)).toNatClampNeg, .inl (cpyN ro.2.1 ro.1 (if 65536 < (2 * ro.2.2) then 65536 else (2 * ro.2.2)))))] H := hP
      have hD : va_D A [(h0, .inr (0, [.ref qn, .int ro.2.2])), (h1, .inl (cB, ro.1, .inl ro.2.1)), (qn, .inl (cB, (if 65536 < (2 * ro.2.2) then 65536 else (2 * ro.2.2)).toNatClampNeg, .inl (cpyN ro.2.1 ro.1 (if 65536 < (2 * ro.2.2) then 65536 else (2 * ro.2.2)))))] := hD
      refine lv_aload_n hx hb d_Row_add_43 rfl (lv_at hl 0 rfl) ?_
      refine va_get (D := D) (ci := 0) (C := R_Row) (T := F_Row) (N := 2) hx hb (kl_Row hK.2) (fun _ h => h) hown hK.1 hP 0 rfl rfl 1 (by decide) (hw kw_11) (fun _ h9 => h9) rfl d_Row_add_44 ?_
      refine lv_if_lt (tgt := 83) hx hb d_Row_add_47 (by decide) (fun c_7 => ?_) (fun c_7 => ?_)
      · have ef : M_Row_add ro p0 = ((if 65536 < (2 * ro.2.2) then 65536 else (2 * ro.2.2)).toNatClampNeg, (cpyN ro.2.1 ro.1 (if 65536 < (2 * ro.2.2) then 65536 else (2 * ro.2.2))), ro.2.2) := by unfold M_Row_add; (try dsimp only); rw [if_neg c_1]; rw [if_neg c_4]; rw [if_pos c_7]
        exact ct_vret hx hb hr hlocks d_Row_add_83 ⟨by rw [ef]; show 1 ≤ gC 1024 ro.1 (if 65536 < (2 * ro.2.2) then 65536 else (2 * ro.2.2)).toNatClampNeg; rw [hN1]; simp only [gC]; omega, by rw [ef]; show (if 65536 < (2 * ro.2.2) then 65536 else (2 * ro.2.2)).toNatClampNeg ≤ gS ro.1 (if 65536 < (2 * ro.2.2) then 65536 else (2 * ro.2.2)).toNatClampNeg; rw [hN1]; simp only [gS]; omega⟩ hQ hAe hS (qn, ((if 65536 < (2 * ro.2.2) then 65536 else (2 * ro.2.2)).toNatClampNeg, (cpyN ro.2.1 ro.1 (if 65536 < (2 * ro.2.2) then 65536 else (2 * ro.2.2))), ro.2.2)) rfl ⟨ef.symm, (by have h9 := ok_Row_add hro p0; rw [ef] at h9; exact h9), (by have h9 := mo_Row_add hro p0; rw [ef] at h9; exact h9)⟩ (hP.sub [0, 2] rfl) (hD.sub [0, 2] rfl rfl)
      · refine lv_aload_n hx hb d_Row_add_50 rfl (lv_at hl 0 rfl) ?_
        refine va_get (D := D) (ci := 0) (C := R_Row) (T := F_Row) (N := 2) hx hb (kl_Row hK.2) (fun _ h => h) hown hK.1 hP 0 rfl rfl 1 (by decide) (hw kw_11) (fun _ h9 => h9) rfl d_Row_add_51 ?_
        refine lv_aload_n hx hb d_Row_add_54 rfl (lv_at hl 0 rfl) ?_
        refine va_get (D := D) (ci := 0) (C := R_Row) (T := F_Row) (N := 2) hx hb (kl_Row hK.2) (fun _ h => h) hown hK.1 hP 0 rfl rfl 0 (by decide) (hw kw_12) (fun _ h9 => h9) rfl d_Row_add_55 ?_
        refine va_alen (v := nI ((if 65536 < (2 * ro.2.2) then 65536 else (2 * ro.2.2)).toNatClampNeg)) hx hb hK.1 hP 2 0 rfl rfl rfl d_Row_add_58 ?_
        refine lv_icmp_ge (tgt := 83) hx hb d_Row_add_59 (by decide) (fun c_8 => ?_) (fun c_8 => ?_)
        · have ef : M_Row_add ro p0 = ((if 65536 < (2 * ro.2.2) then 65536 else (2 * ro.2.2)).toNatClampNeg, (cpyN ro.2.1 ro.1 (if 65536 < (2 * ro.2.2) then 65536 else (2 * ro.2.2))), ro.2.2) := by unfold M_Row_add; (try dsimp only); rw [if_neg c_1]; rw [if_neg c_4]; rw [if_neg c_7]; rw [if_pos c_8]
          exact ct_vret hx hb hr hlocks d_Row_add_83 ⟨by rw [ef]; show 1 ≤ gC 1024 ro.1 (if 65536 < (2 * ro.2.2) then 65536 else (2 * ro.2.2)).toNatClampNeg; rw [hN1]; simp only [gC]; omega, by rw [ef]; show (if 65536 < (2 * ro.2.2) then 65536 else (2 * ro.2.2)).toNatClampNeg ≤ gS ro.1 (if 65536 < (2 * ro.2.2) then 65536 else (2 * ro.2.2)).toNatClampNeg; rw [hN1]; simp only [gS]; omega⟩ hQ hAe hS (qn, ((if 65536 < (2 * ro.2.2) then 65536 else (2 * ro.2.2)).toNatClampNeg, (cpyN ro.2.1 ro.1 (if 65536 < (2 * ro.2.2) then 65536 else (2 * ro.2.2))), ro.2.2)) rfl ⟨ef.symm, (by have h9 := ok_Row_add hro p0; rw [ef] at h9; exact h9), (by have h9 := mo_Row_add hro p0; rw [ef] at h9; exact h9)⟩ (hP.sub [0, 2] rfl) (hD.sub [0, 2] rfl rfl)
        · refine lv_aload_n hx hb d_Row_add_62 rfl (lv_at hl 0 rfl) ?_
          refine va_get (D := D) (ci := 0) (C := R_Row) (T := F_Row) (N := 2) hx hb (kl_Row hK.2) (fun _ h => h) hown hK.1 hP 0 rfl rfl 0 (by decide) (hw kw_12) (fun _ h9 => h9) rfl d_Row_add_63 ?_
          refine lv_aload_n hx hb d_Row_add_66 rfl (lv_at hl 0 rfl) ?_
          refine va_get (D := D) (ci := 0) (C := R_Row) (T := F_Row) (N := 2) hx hb (kl_Row hK.2) (fun _ h => h) hown hK.1 hP 0 rfl rfl 1 (by decide) (hw kw_11) (fun _ h9 => h9) rfl d_Row_add_67 ?_
          refine lv_iload_n hx hb d_Row_add_70 rfl (lv_at hl 1 rfl) ?_
          refine lv_i2b hx hb d_Row_add_71 rfl ?_
          refine va_bast hx hb hK.1 hP hD hS 2 0 rfl rfl (vp_int c_7 c_8 (by omega)) d_Row_add_72 (fun H locs hP hD hS => ?_)
          have hP : va_P D classes [(h0, .inr (0, [.ref qn, .int ro.2.2])), (h1, .inl (cB, ro.1, .inl ro.2.1)), (qn, .inl (cB, (if 65536 < (2 * ro.2.2) then 65536 else (2 * ro.2.2)).toNatClampNeg, .inl (upd (cpyN ro.2.1 ro.1 (if 65536 < (2 * ro.2.2) then 65536 else (2 * ro.2.2))) ro.2.2.toNatClampNeg (vp_nar .byte p0.toInt8.toInt32))))] H := hP
          have hD : va_D A [(h0, .inr (0, [.ref qn, .int ro.2.2])), (h1, .inl (cB, ro.1, .inl ro.2.1)), (qn, .inl (cB, (if 65536 < (2 * ro.2.2) then 65536 else (2 * ro.2.2)).toNatClampNeg, .inl (upd (cpyN ro.2.1 ro.1 (if 65536 < (2 * ro.2.2) then 65536 else (2 * ro.2.2))) ro.2.2.toNatClampNeg (vp_nar .byte p0.toInt8.toInt32))))] := hD
          refine lv_aload_n hx hb d_Row_add_73 rfl (lv_at hl 0 rfl) ?_
          refine lv_dup hx hb d_Row_add_74 rfl ?_
          refine va_get (D := D) (ci := 0) (C := R_Row) (T := F_Row) (N := 2) hx hb (kl_Row hK.2) (fun _ h => h) hown hK.1 hP 0 rfl rfl 1 (by decide) (hw kw_11) (fun _ h9 => h9) rfl d_Row_add_75 ?_
          refine lv_iconst (v := 1) hx hb d_Row_add_78 (by decide) ?_
          refine lv_iadd hx hb d_Row_add_79 ?_
          refine lv_topi (fun y3 e3 => ?_)
          refine va_put (D := D) (ci := 0) (v := .int y3) (ty := .int) (C := R_Row) (T := F_Row) (N := 2) hx hb (kl_Row hK.2) (fun _ h => h) t_Row t_Row_ok n_Row hown hK.1 hP hD hS 0 rfl rfl 1 (by decide) (hw kw_11) (fun _ h9 => h9) rfl (t_Row_ok 1 (by decide)) rfl rfl (Nat.le_of_ble_eq_true rfl) d_Row_add_80 (fun H locs hP hD hS => ?_)
          have hP : va_P D classes [(h0, .inr (0, [.ref qn, .int y3])), (h1, .inl (cB, ro.1, .inl ro.2.1)), (qn, .inl (cB, (if 65536 < (2 * ro.2.2) then 65536 else (2 * ro.2.2)).toNatClampNeg, .inl (upd (cpyN ro.2.1 ro.1 (if 65536 < (2 * ro.2.2) then 65536 else (2 * ro.2.2))) ro.2.2.toNatClampNeg (vp_nar .byte p0.toInt8.toInt32))))] H := hP
          have hD : va_D A [(h0, .inr (0, [.ref qn, .int y3])), (h1, .inl (cB, ro.1, .inl ro.2.1)), (qn, .inl (cB, (if 65536 < (2 * ro.2.2) then 65536 else (2 * ro.2.2)).toNatClampNeg, .inl (upd (cpyN ro.2.1 ro.1 (if 65536 < (2 * ro.2.2) then 65536 else (2 * ro.2.2))) ro.2.2.toNatClampNeg (vp_nar .byte p0.toInt8.toInt32))))] := hD
          have ef : M_Row_add ro p0 = ((if 65536 < (2 * ro.2.2) then 65536 else (2 * ro.2.2)).toNatClampNeg, (upd (cpyN ro.2.1 ro.1 (if 65536 < (2 * ro.2.2) then 65536 else (2 * ro.2.2))) ro.2.2.toNatClampNeg (vp_nar .byte p0.toInt8.toInt32)), y3) := by unfold M_Row_add; (try dsimp only); rw [if_neg c_1]; rw [if_neg c_4]; rw [if_neg c_7]; rw [if_neg c_8]; (try rw [← e3])
          exact ct_vret hx hb hr hlocks d_Row_add_83 ⟨by rw [ef]; show 1 ≤ gC 1024 ro.1 (if 65536 < (2 * ro.2.2) then 65536 else (2 * ro.2.2)).toNatClampNeg; rw [hN1]; simp only [gC]; omega, by rw [ef]; show (if 65536 < (2 * ro.2.2) then 65536 else (2 * ro.2.2)).toNatClampNeg ≤ gS ro.1 (if 65536 < (2 * ro.2.2) then 65536 else (2 * ro.2.2)).toNatClampNeg; rw [hN1]; simp only [gS]; omega⟩ hQ hAe hS (qn, ((if 65536 < (2 * ro.2.2) then 65536 else (2 * ro.2.2)).toNatClampNeg, (upd (cpyN ro.2.1 ro.1 (if 65536 < (2 * ro.2.2) then 65536 else (2 * ro.2.2))) ro.2.2.toNatClampNeg (vp_nar .byte p0.toInt8.toInt32)), y3)) rfl ⟨ef.symm, (by have h9 := ok_Row_add hro p0; rw [ef] at h9; exact h9), (by have h9 := mo_Row_add hro p0; rw [ef] at h9; exact h9)⟩ (hP.sub [0, 2] rfl) (hD.sub [0, 2] rfl rfl)
set_option maxHeartbeats 4000000 in
set_option maxRecDepth 100000 in
theorem c_Row_number {l : Launch} {D : va_G} {cB cI cJ : ClassId} (h0 h1 : Nat) (ro : RowS) (hro : RowOK ro) (p0 : Int64) (p1 : Int32) (p2 : Int32) : CtP classes BW l D (TY cB cI cJ) y_Row_number b_Row_number 8 (some .long) ({ frames := 1, cells := 0, slots := 0, locals := 22 } : Room) [.ref h0, .long p0, .int p1, .int p2] [(h0, .inr (0, [.ref h1, .int ro.2.2])), (h1, .inl (cB, ro.1, .inl ro.2.1))] (some (.long (M_Row_number ro p0 p1 p2))) := by
  refine CtP.intro (by decide +kernel) (Nat.le_of_ble_eq_true rfl) ?_
  intro p e s m below meth c hx hb hr hml hlocks hnm hown hK hS hP hD ls hl Q hQ
  have hown : s.vm.findClass "PictureFile$Row" = some m.cls := hown
  have hH : Hold classes BW D (TY cB cI cJ) p s m c b_Row_number 8 "PictureFile$Row" := ⟨bw_ok, hx, hb, hml, hown, hK⟩
  have hw : ∀ {w : Cond}, w ∈ BW → w.before ([.ref h0, .long p0, .int p1, .int p2] : List Value).toArray s = true := fun h => Wd.at bw_ok hK.2 h
  have hl : lv_has ls 8 [(0, .ref h0), (1, .long p0), (3, .int p1), (4, .int p2)] := hl
  have bo0ro := RowOK.le hro
  refine lv_lconst (v := 0) hx hb d_Row_number_0 (by decide) ?_
  refine lv_lstore (lv' := [(5, .long 0), (0, .ref h0), (1, .long p0), (3, .int p1), (4, .int p2)]) hx hb d_Row_number_1 hl (by decide) rfl (fun ls hl => ?_)
  refine lv_iconst (v := 0) hx hb d_Row_number_3 (by decide) ?_
  refine lv_istore (lv' := [(7, .int 0), (5, .long 0), (0, .ref h0), (1, .long p0), (3, .int p1), (4, .int p2)]) hx hb d_Row_number_4 hl (by decide) rfl (fun ls hl => ?_)
  have LP6 : ∀ (n : Nat) (v7 : Int32) (v5 : Int64) (H : Heap) (locs : List Loc) (ls : Array Slot), (p1.toInt - v7.toInt).toNat < n → M_Row_number ro p0 p1 p2 = L_Row_number ro p0 p1 p2 n v7 v5 → va_P D classes [(h0, .inr (0, [.ref h1, .int ro.2.2])), (h1, .inl (cB, ro.1, .inl ro.2.1))] H → va_S (fun q : Nat => s.heap.size ≤ q) s.heap H locs → lv_has ls 8 [(0, .ref h0), (1, .long p0), (3, .int p1), (4, .int p2), (7, .int v7), (5, .long v5)] → W p l e ({ frames := 1, cells := 0, slots := 0, locals := 22 } : Room) s m ([.ref h0, .long p0, .int p1, .int p2] : List Value).toArray below meth c H locs 0 0 Q (F0 m 6 ls []) := by
    intro n
    induction n with
    | zero => intro v7 v5 H locs ls hmu hM hP hS hl; exact absurd hmu (Nat.not_lt_zero _)
    | succ n ih =>
      intro v7 v5 H locs ls hmu hM hP hS hl
      refine lv_iload hx hb d_Row_number_6 (lv_at hl 4 rfl) ?_
      refine lv_iload_n hx hb d_Row_number_8 rfl (lv_at hl 2 rfl) ?_
      refine lv_icmp_ge (tgt := 42) hx hb d_Row_number_9 (by decide) (fun c_1 => ?_) (fun c_1 => ?_)
      · refine lv_lload hx hb d_Row_number_42 (lv_at hl 5 rfl) ?_
        have ef : M_Row_number ro p0 p1 p2 = v5 := by rw [hM, L_Row_number]; (try dsimp only); rw [if_pos c_1]
        exact ct_plret hx hb hr hlocks d_Row_number_44 hQ hS (by rw [ef])
      · refine lv_lload hx hb d_Row_number_12 (lv_at hl 5 rfl) ?_
        refine lv_aload_n hx hb d_Row_number_14 rfl (lv_at hl 0 rfl) ?_
        refine lv_lload_n hx hb d_Row_number_15 rfl (lv_at hl 1 rfl) ?_
        refine lv_iload hx hb d_Row_number_16 (lv_at hl 4 rfl) ?_
        refine lv_i2l hx hb d_Row_number_18 rfl ?_
        refine lv_ladd hx hb d_Row_number_19 ?_
        refine ct_finP (ct_runV (n := 1) (C := R_Row) (b := h0) (As := [.long (p0 + v7.toInt64)]) (rest := [.long v5]) hH (c_Row_at h0 h1 ro hro (p0 + v7.toInt64) _) ⟨cal_Row_at, ⟨Nat.le_of_ble_eq_true rfl, Nat.le_of_ble_eq_true rfl⟩, (Nat.le_of_ble_eq_true rfl), (Nat.le_of_ble_eq_true rfl)⟩ kw_22 kw_23 kw_24 kw_25 kw_26 (va_recv hK.1 hP (ci := 0) (q0 := 0) rfl rfl) (hP.sub (ws' := [(h0, .inr (0, [.ref h1, .int ro.2.2])), (h1, .inl (cB, ro.1, .inl ro.2.1))]) [0, 1] rfl) (hD.sub (ws' := [(h0, .inr (0, [.ref h1, .int ro.2.2])), (h1, .inl (cB, ro.1, .inl ro.2.1))]) [0, 1] rfl rfl) rfl hl.1 (Nat.le_of_ble_eq_true rfl) d_Row_number_20) hP hS (fun H hP hS => ?_)
        refine W.eq (g2 := F0 m 23 ls [.int (M_Row_at ro (p0 + v7.toInt64)), .long v5]) rfl ?_
        refine lv_i2l hx hb d_Row_number_23 rfl ?_
        refine lv_iload hx hb d_Row_number_24 (lv_at hl 4 rfl) ?_
        refine lv_iload_n hx hb d_Row_number_26 rfl (lv_at hl 2 rfl) ?_
        refine lv_iload hx hb d_Row_number_27 (lv_at hl 3 rfl) ?_
        refine ct_finP (ct_runS (n := 3) (As := [.int v7, .int p1, .int p2]) (rest := [.long ((M_Row_at ro (p0 + v7.toInt64)).toInt64), .long v5]) hH (c_Row_shiftOf v7 p1 p2 _) ⟨cal_Row_shiftOf, ⟨Nat.le_of_ble_eq_true rfl, Nat.le_of_ble_eq_true rfl⟩, (Nat.le_of_ble_eq_true rfl), (Nat.le_of_ble_eq_true rfl)⟩ kw_27 kw_28 kw_24 kw_29 (hP.sub (ws' := []) [] rfl) (hD.sub (ws' := []) [] rfl rfl) rfl hl.1 (Nat.le_of_ble_eq_true rfl) d_Row_number_29) hP hS (fun H hP hS => ?_)
        refine W.eq (g2 := F0 m 32 ls [.int (M_Row_shiftOf v7 p1 p2), .long ((M_Row_at ro (p0 + v7.toInt64)).toInt64), .long v5]) rfl ?_
        refine lv_lshl hx hb d_Row_number_32 rfl ?_
        refine lv_lor hx hb d_Row_number_33 ?_
        refine lv_lstore (lv' := [(5, .long (v5 ||| ((M_Row_at ro (p0 + v7.toInt64)).toInt64 <<< ((M_Row_shiftOf v7 p1 p2).toInt64 &&& 63)))), (0, .ref h0), (1, .long p0), (3, .int p1), (4, .int p2), (7, .int v7)]) hx hb d_Row_number_34 hl (by decide) rfl (fun ls hl => ?_)
        refine lv_iinc (v := (v7 + 1)) (lv' := [(7, .int (v7 + 1)), (5, .long (v5 ||| ((M_Row_at ro (p0 + v7.toInt64)).toInt64 <<< ((M_Row_shiftOf v7 p1 p2).toInt64 &&& 63)))), (0, .ref h0), (1, .long p0), (3, .int p1), (4, .int p2)]) hx hb d_Row_number_36 hl (k := 5) rfl rfl (by decide) rfl (fun ls hl => ?_)
        refine lv_goto (tgt := 6) hx hb d_Row_number_39 (by decide) ?_
        exact ih (v7 + 1) (v5 ||| ((M_Row_at ro (p0 + v7.toInt64)).toInt64 <<< ((M_Row_shiftOf v7 p1 p2).toInt64 &&& 63))) H locs ls (mu_dec c_1 hmu) (by rw [hM, L_Row_number]; (try dsimp only); rw [if_neg c_1])  (hP.sub [0, 1] rfl) hS (lv_sub hl [2, 3, 4, 5, 0, 1] rfl)
  exact LP6 ((p1.toInt - (0 : Int32).toInt).toNat + 1) 0 0 _ _ _ (Nat.lt_succ_self _) (by rfl)  (hP.sub [0, 1] rfl) hS (lv_sub hl [2, 3, 4, 5, 0, 1] rfl)
set_option maxHeartbeats 4000000 in
set_option maxRecDepth 100000 in
theorem c_Row_append {l : Launch} {D : va_G} {cB cI cJ : ClassId} (h0 h1 : Nat) (ro : RowS) (hro : RowOK ro) (p0 : Int64) (p1 : Int32) (p2 : Int32) : Ct classes BW l D (TY cB cI cJ) y_Row_append b_Row_append 6 none ({ frames := 3, cells := 601, slots := 235536, locals := 103 } : Room) [.ref h0, .long p0, .int p1, .int p2] [(h0, .inr (0, [.ref h1, .int ro.2.2])), (h1, .inl (cB, ro.1, .inl ro.2.1))] (fun u : Nat × RowS => u.2 = M_Row_append ro p0 p1 p2 ∧ RowOK u.2 ∧ ro.1 ≤ u.2.1) (fun u => none) (fun u => [(h0, .inr (0, [.ref u.1, .int u.2.2.2])), (u.1, .inl (cB, u.2.1, .inl u.2.2.1))]) (gC 1024 ro.1 (M_Row_append ro p0 p1 p2).1) (gS ro.1 (M_Row_append ro p0 p1 p2).1) := by
  refine Ct.intro (by decide +kernel) (Nat.le_of_ble_eq_true rfl) ?_
  intro p e s m below meth c hx hb hr hml hlocks hnm hown hK A hAe hA hS hP hD ls hl Q hQ
  have hown : s.vm.findClass "PictureFile$Row" = some m.cls := hown
  have hH : Hold classes BW D (TY cB cI cJ) p s m c b_Row_append 6 "PictureFile$Row" := ⟨bw_ok, hx, hb, hml, hown, hK⟩
  have hw : ∀ {w : Cond}, w ∈ BW → w.before ([.ref h0, .long p0, .int p1, .int p2] : List Value).toArray s = true := fun h => Wd.at bw_ok hK.2 h
  have hl : lv_has ls 6 [(0, .ref h0), (1, .long p0), (3, .int p1), (4, .int p2)] := hl
  have bo0ro := RowOK.le hro
  refine lv_iconst (v := 0) hx hb d_Row_append_0 (by decide) ?_
  refine lv_istore (lv' := [(5, .int 0), (0, .ref h0), (1, .long p0), (3, .int p1), (4, .int p2)]) hx hb d_Row_append_1 hl (by decide) rfl (fun ls hl => ?_)
  have LP3 : ∀ (n : Nat) (v5 : Int32) (qLro : Nat) (roL : RowS) (H : Heap) (locs : List Loc) (ls : Array Slot), (p1.toInt - v5.toInt).toNat < n → M_Row_append ro p0 p1 p2 = L_Row_append p0 p1 p2 n v5 roL → RowOK roL → ro.1 ≤ roL.1 → va_P D classes [(h0, .inr (0, [.ref qLro, .int roL.2.2])), (qLro, .inl (cB, roL.1, .inl roL.2.1))] H → va_D A [(h0, .inr (0, [.ref qLro, .int roL.2.2])), (qLro, .inl (cB, roL.1, .inl roL.2.1))] → va_S A s.heap H locs → lv_has ls 6 [(0, .ref h0), (1, .long p0), (3, .int p1), (4, .int p2), (5, .int v5)] → W p l e ({ frames := 3, cells := 601, slots := 235536, locals := 103 } : Room) s m ([.ref h0, .long p0, .int p1, .int p2] : List Value).toArray below meth c H locs (gC 1024 ro.1 roL.1) (gS ro.1 roL.1) Q (F0 m 3 ls []) := by
    intro n
    induction n with
    | zero => intro v5 qLro roL H locs ls hmu hM okLro moLro hP hD hS hl; exact absurd hmu (Nat.not_lt_zero _)
    | succ n ih =>
      intro v5 qLro roL H locs ls hmu hM okLro moLro hP hD hS hl
      have boLro := RowOK.le okLro
      refine lv_iload hx hb d_Row_append_3 (lv_at hl 4 rfl) ?_
      refine lv_iload_n hx hb d_Row_append_5 rfl (lv_at hl 2 rfl) ?_
      refine lv_icmp_ge (tgt := 30) hx hb d_Row_append_6 (by decide) (fun c_1 => ?_) (fun c_1 => ?_)
      · have ef : M_Row_append ro p0 p1 p2 = roL := by rw [hM, L_Row_append]; (try dsimp only); rw [if_pos c_1]
        exact ct_vret hx hb hr hlocks d_Row_append_30 ⟨by rw [ef]; simp only [gC]; omega, by rw [ef]; simp only [gS]; omega⟩ hQ hAe hS (qLro, roL) rfl ⟨ef.symm, okLro, (by show ro.1 ≤ roL.1; omega)⟩ (hP.sub [0, 1] rfl) (hD.sub [0, 1] rfl rfl)
      · refine lv_aload_n hx hb d_Row_append_9 rfl (lv_at hl 0 rfl) ?_
        refine lv_lload_n hx hb d_Row_append_10 rfl (lv_at hl 1 rfl) ?_
        refine lv_iload hx hb d_Row_append_11 (lv_at hl 4 rfl) ?_
        refine lv_iload_n hx hb d_Row_append_13 rfl (lv_at hl 2 rfl) ?_
        refine lv_iload hx hb d_Row_append_14 (lv_at hl 3 rfl) ?_
        refine ct_finP (ct_runS (n := 3) (As := [.int v5, .int p1, .int p2]) (rest := [.long p0, .ref h0]) hH (c_Row_shiftOf v5 p1 p2 _) ⟨cal_Row_shiftOf, ⟨Nat.le_of_ble_eq_true rfl, Nat.le_of_ble_eq_true rfl⟩, (by show gC 1024 ro.1 roL.1 + 0 ≤ 601; simp only [gC]; omega), (by show gS ro.1 roL.1 + 0 ≤ 235536; simp only [gS]; omega)⟩ kw_27 kw_28 kw_24 kw_29 (hP.sub (ws' := []) [] rfl) (hD.sub (ws' := []) [] rfl rfl) rfl hl.1 (Nat.le_of_ble_eq_true rfl) d_Row_append_16) hP hS (fun H hP hS => ?_)
        refine W.eq (g2 := F0 m 19 ls [.int (M_Row_shiftOf v5 p1 p2), .long p0, .ref h0]) rfl ?_
        refine lv_lshr hx hb d_Row_append_19 rfl ?_
        refine lv_l2i hx hb d_Row_append_20 rfl ?_
        refine ct_fin (wr := []) (ct_runV (n := 1) (C := R_Row) (b := h0) (As := [.int ((p0 >>> ((M_Row_shiftOf v5 p1 p2).toInt64 &&& 63)).toInt32)]) (rest := []) hH (c_Row_add h0 qLro roL okLro ((p0 >>> ((M_Row_shiftOf v5 p1 p2).toInt64 &&& 63)).toInt32) _) ⟨cal_Row_add, ⟨Nat.le_of_ble_eq_true rfl, Nat.le_of_ble_eq_true rfl⟩, (by show gC 1024 ro.1 roL.1 + 1 ≤ 601; simp only [gC]; omega), (by show gS ro.1 roL.1 + 65536 ≤ 235536; simp only [gS]; omega)⟩ kw_30 kw_31 kw_24 kw_32 kw_33 (va_recv hK.1 hP (ci := 0) (q0 := 0) rfl rfl) (hP.sub (ws' := [(h0, .inr (0, [.ref qLro, .int roL.2.2])), (qLro, .inl (cB, roL.1, .inl roL.2.1))]) [0, 1] rfl) (hD.sub (ws' := [(h0, .inr (0, [.ref qLro, .int roL.2.2])), (qLro, .inl (cB, roL.1, .inl roL.2.1))]) [0, 1] rfl rfl) rfl hl.1 (Nat.le_of_ble_eq_true rfl) d_Row_append_21) hP hD hS hA [0, 1] [] rfl rfl rfl (by decide) (fun u H locs hp hP hD hS => ?_)
        obtain ⟨q1ro, x1⟩ := u
        obtain ⟨e1, ok1ro, mo1ro⟩ := hp
        try dsimp only at e1 ok1ro mo1ro
        have bo1ro := RowOK.le ok1ro
        have hP : va_P D classes [(h0, .inr (0, [.ref q1ro, .int x1.2.2])), (q1ro, .inl (cB, x1.1, .inl x1.2.1))] H := hP
        have hD : va_D A [(h0, .inr (0, [.ref q1ro, .int x1.2.2])), (q1ro, .inl (cB, x1.1, .inl x1.2.1))] := hD
        refine W.widen (k := gC 1024 ro.1 x1.1) (n := gS ro.1 x1.1) (by rw [← e1]; simp only [gC]; omega) (by rw [← e1]; simp only [gS]; omega) ?_
        refine W.eq (g2 := F0 m 24 ls []) rfl ?_
        refine lv_iinc (v := (v5 + 1)) (lv' := [(5, .int (v5 + 1)), (0, .ref h0), (1, .long p0), (3, .int p1), (4, .int p2)]) hx hb d_Row_append_24 hl (k := 4) rfl rfl (by decide) rfl (fun ls hl => ?_)
        refine lv_goto (tgt := 3) hx hb d_Row_append_27 (by decide) ?_
        exact ih (v5 + 1) q1ro x1 H locs ls (mu_dec c_1 hmu) (by rw [hM, L_Row_append]; (try dsimp only); rw [if_neg c_1]; (try rw [← e1])) ok1ro (by show ro.1 ≤ x1.1; omega) (hP.sub [0, 1] rfl) (hD.sub [0, 1] rfl rfl) hS (lv_sub hl [1, 2, 3, 4, 0] rfl)
  refine W.widen (k := gC 1024 ro.1 ro.1) (n := gS ro.1 ro.1) (by simp only [gC]; omega) (by simp only [gS]; omega) ?_
  exact LP3 ((p1.toInt - (0 : Int32).toInt).toNat + 1) 0 h1 ro _ _ _ (Nat.lt_succ_self _) (by rfl) hro (by show ro.1 ≤ ro.1; omega) (hP.sub [0, 1] rfl) (hD.sub [0, 1] rfl rfl) hS (lv_sub hl [1, 2, 3, 4, 0] rfl)
set_option maxHeartbeats 4000000 in
set_option maxRecDepth 100000 in
theorem c_Row_replaceLong {l : Launch} {D : va_G} {cB cI cJ : ClassId} (h0 h1 : Nat) (ro : RowS) (hro : RowOK ro) (p0 : Int32) (p1 : Int64) (p2 : Int32) : Ct classes BW l D (TY cB cI cJ) y_Row_replaceLong b_Row_replaceLong 6 none ({ frames := 1, cells := 600, slots := 170000, locals := 22 } : Room) [.ref h0, .int p0, .long p1, .int p2] [(h0, .inr (0, [.ref h1, .int ro.2.2])), (h1, .inl (cB, ro.1, .inl ro.2.1))] (fun u : Nat × RowS => u.2 = M_Row_replaceLong ro p0 p1 p2 ∧ RowOK u.2 ∧ ro.1 ≤ u.2.1) (fun u => none) (fun u => [(h0, .inr (0, [.ref u.1, .int u.2.2.2])), (u.1, .inl (cB, u.2.1, .inl u.2.2.1))]) (gC 1024 ro.1 (M_Row_replaceLong ro p0 p1 p2).1) (gS ro.1 (M_Row_replaceLong ro p0 p1 p2).1) := by
  refine Ct.intro (by decide +kernel) (Nat.le_of_ble_eq_true rfl) ?_
  intro p e s m below meth c hx hb hr hml hlocks hnm hown hK A hAe hA hS hP hD ls hl Q hQ
  have hown : s.vm.findClass "PictureFile$Row" = some m.cls := hown
  have hH : Hold classes BW D (TY cB cI cJ) p s m c b_Row_replaceLong 6 "PictureFile$Row" := ⟨bw_ok, hx, hb, hml, hown, hK⟩
  have hw : ∀ {w : Cond}, w ∈ BW → w.before ([.ref h0, .int p0, .long p1, .int p2] : List Value).toArray s = true := fun h => Wd.at bw_ok hK.2 h
  have hl : lv_has ls 6 [(0, .ref h0), (1, .int p0), (2, .long p1), (4, .int p2)] := hl
  have bo0ro := RowOK.le hro
  refine lv_iconst (v := 0) hx hb d_Row_replaceLong_0 (by decide) ?_
  refine lv_istore (lv' := [(5, .int 0), (0, .ref h0), (1, .int p0), (2, .long p1), (4, .int p2)]) hx hb d_Row_replaceLong_1 hl (by decide) rfl (fun ls hl => ?_)
  have LP3 : ∀ (n : Nat) (v5 : Int32) (qLro : Nat) (roL : RowS) (H : Heap) (locs : List Loc) (ls : Array Slot), ((4 : Int32).toInt - v5.toInt).toNat < n → M_Row_replaceLong ro p0 p1 p2 = L_Row_replaceLong p0 p1 p2 n v5 roL → RowOK roL → ro.1 ≤ roL.1 → va_P D classes [(h0, .inr (0, [.ref qLro, .int roL.2.2])), (qLro, .inl (cB, roL.1, .inl roL.2.1))] H → va_D A [(h0, .inr (0, [.ref qLro, .int roL.2.2])), (qLro, .inl (cB, roL.1, .inl roL.2.1))] → va_S A s.heap H locs → lv_has ls 6 [(0, .ref h0), (1, .int p0), (2, .long p1), (4, .int p2), (5, .int v5)] → W p l e ({ frames := 1, cells := 600, slots := 170000, locals := 22 } : Room) s m ([.ref h0, .int p0, .long p1, .int p2] : List Value).toArray below meth c H locs (gC 1024 ro.1 roL.1) (gS ro.1 roL.1) Q (F0 m 3 ls []) := by
    intro n
    induction n with
    | zero => intro v5 qLro roL H locs ls hmu hM okLro moLro hP hD hS hl; exact absurd hmu (Nat.not_lt_zero _)
    | succ n ih =>
      intro v5 qLro roL H locs ls hmu hM okLro moLro hP hD hS hl
      have boLro := RowOK.le okLro
      refine lv_iload hx hb d_Row_replaceLong_3 (lv_at hl 4 rfl) ?_
      refine lv_iconst (v := 4) hx hb d_Row_replaceLong_5 (by decide) ?_
      refine lv_icmp_ge (tgt := 34) hx hb d_Row_replaceLong_6 (by decide) (fun c_1 => ?_) (fun c_1 => ?_)
      · have ef : M_Row_replaceLong ro p0 p1 p2 = roL := by rw [hM, L_Row_replaceLong]; (try dsimp only); rw [if_pos c_1]
        exact ct_vret hx hb hr hlocks d_Row_replaceLong_34 ⟨by rw [ef]; simp only [gC]; omega, by rw [ef]; simp only [gS]; omega⟩ hQ hAe hS (qLro, roL) rfl ⟨ef.symm, okLro, (by show ro.1 ≤ roL.1; omega)⟩ (hP.sub [0, 1] rfl) (hD.sub [0, 1] rfl rfl)
      · refine lv_aload_n hx hb d_Row_replaceLong_9 rfl (lv_at hl 0 rfl) ?_
        refine lv_iload_n hx hb d_Row_replaceLong_10 rfl (lv_at hl 1 rfl) ?_
        refine lv_iload hx hb d_Row_replaceLong_11 (lv_at hl 4 rfl) ?_
        refine lv_iadd hx hb d_Row_replaceLong_13 ?_
        refine lv_lload_n hx hb d_Row_replaceLong_14 rfl (lv_at hl 2 rfl) ?_
        refine lv_iload hx hb d_Row_replaceLong_15 (lv_at hl 4 rfl) ?_
        refine lv_iconst (v := 4) hx hb d_Row_replaceLong_17 (by decide) ?_
        refine lv_iload hx hb d_Row_replaceLong_18 (lv_at hl 3 rfl) ?_
        refine ct_finP (ct_runS (n := 3) (As := [.int v5, .int 4, .int p2]) (rest := [.long p1, .int (p0 + v5), .ref h0]) hH (c_Row_shiftOf v5 4 p2 _) ⟨cal_Row_shiftOf, ⟨Nat.le_of_ble_eq_true rfl, Nat.le_of_ble_eq_true rfl⟩, (by show gC 1024 ro.1 roL.1 + 0 ≤ 600; simp only [gC]; omega), (by show gS ro.1 roL.1 + 0 ≤ 170000; simp only [gS]; omega)⟩ kw_27 kw_28 kw_24 kw_29 (hP.sub (ws' := []) [] rfl) (hD.sub (ws' := []) [] rfl rfl) rfl hl.1 (Nat.le_of_ble_eq_true rfl) d_Row_replaceLong_20) hP hS (fun H hP hS => ?_)
        refine W.eq (g2 := F0 m 23 ls [.int (M_Row_shiftOf v5 4 p2), .long p1, .int (p0 + v5), .ref h0]) rfl ?_
        refine lv_lshr hx hb d_Row_replaceLong_23 rfl ?_
        refine lv_l2i hx hb d_Row_replaceLong_24 rfl ?_
        refine ct_fin (wr := []) (ct_runV (n := 2) (C := R_Row) (b := h0) (As := [.int (p0 + v5), .int ((p1 >>> ((M_Row_shiftOf v5 4 p2).toInt64 &&& 63)).toInt32)]) (rest := []) hH (c_Row_replace h0 qLro roL okLro (p0 + v5) ((p1 >>> ((M_Row_shiftOf v5 4 p2).toInt64 &&& 63)).toInt32) _) ⟨cal_Row_replace, ⟨Nat.le_of_ble_eq_true rfl, Nat.le_of_ble_eq_true rfl⟩, (by show gC 1024 ro.1 roL.1 + 0 ≤ 600; simp only [gC]; omega), (by show gS ro.1 roL.1 + 0 ≤ 170000; simp only [gS]; omega)⟩ kw_34 kw_35 kw_24 kw_36 kw_37 (va_recv hK.1 hP (ci := 0) (q0 := 0) rfl rfl) (hP.sub (ws' := [(h0, .inr (0, [.ref qLro, .int roL.2.2])), (qLro, .inl (cB, roL.1, .inl roL.2.1))]) [0, 1] rfl) (hD.sub (ws' := [(h0, .inr (0, [.ref qLro, .int roL.2.2])), (qLro, .inl (cB, roL.1, .inl roL.2.1))]) [0, 1] rfl rfl) rfl hl.1 (Nat.le_of_ble_eq_true rfl) d_Row_replaceLong_25) hP hD hS hA [0, 1] [] rfl rfl rfl (by decide) (fun u H locs hp hP hD hS => ?_)
        obtain ⟨q1ro, x1⟩ := u
        obtain ⟨e1, ok1ro, mo1ro⟩ := hp
        try dsimp only at e1 ok1ro mo1ro
        have bo1ro := RowOK.le ok1ro
        have hP : va_P D classes [(h0, .inr (0, [.ref q1ro, .int x1.2.2])), (q1ro, .inl (cB, x1.1, .inl x1.2.1))] H := hP
        have hD : va_D A [(h0, .inr (0, [.ref q1ro, .int x1.2.2])), (q1ro, .inl (cB, x1.1, .inl x1.2.1))] := hD
        refine W.widen (k := gC 1024 ro.1 x1.1) (n := gS ro.1 x1.1) (by rw [← e1]; simp only [gC]; omega) (by rw [← e1]; simp only [gS]; omega) ?_
        refine W.eq (g2 := F0 m 28 ls []) rfl ?_
        refine lv_iinc (v := (v5 + 1)) (lv' := [(5, .int (v5 + 1)), (0, .ref h0), (1, .int p0), (2, .long p1), (4, .int p2)]) hx hb d_Row_replaceLong_28 hl (k := 4) rfl rfl (by decide) rfl (fun ls hl => ?_)
        refine lv_goto (tgt := 3) hx hb d_Row_replaceLong_31 (by decide) ?_
        exact ih (v5 + 1) q1ro x1 H locs ls (mu_dec c_1 hmu) (by rw [hM, L_Row_replaceLong]; (try dsimp only); rw [if_neg c_1]; (try rw [← e1])) ok1ro (by show ro.1 ≤ x1.1; omega) (hP.sub [0, 1] rfl) (hD.sub [0, 1] rfl rfl) hS (lv_sub hl [1, 2, 3, 4, 0] rfl)
  refine W.widen (k := gC 1024 ro.1 ro.1) (n := gS ro.1 ro.1) (by simp only [gC]; omega) (by simp only [gS]; omega) ?_
  exact LP3 (((4 : Int32).toInt - (0 : Int32).toInt).toNat + 1) 0 h1 ro _ _ _ (Nat.lt_succ_self _) (by rfl) hro (by show ro.1 ≤ ro.1; omega) (hP.sub [0, 1] rfl) (hD.sub [0, 1] rfl rfl) hS (lv_sub hl [1, 2, 3, 4, 0] rfl)
