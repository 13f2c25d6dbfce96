set_option maxHeartbeats 4000000 in
set_option maxRecDepth 100000 in
theorem c_En_take {l : Launch} {D : va_G} {cB cI cJ : ClassId} (h0 h1 h2 h3 h4 h5 : Nat) (ro : RowS) (ty : Nat → Int32) (ct : Nat → Int32) (pl : Nat → Int32) (hro : RowOK ro) (p0 : Int32) (p1 : Int32) (p2 : Int32) : Ct classes BW l D (TY cB cI cJ) y_En_take b_En_take 11 (some .int) ({ frames := 2, cells := 0, slots := 0, locals := 49 } : Room) [.ref h0, .int p0, .int p1, .int p2] [(h0, .inr (4, [.ref h1, .ref h3, .ref h4, .ref h5])), (h1, .inr (0, [.ref h2, .int ro.2.2])), (h2, .inl (cB, ro.1, .inl ro.2.1)), (h3, .inl (cI, 41, .inl ty)), (h4, .inl (cI, 41, .inl ct)), (h5, .inl (cI, 41, .inl pl))] (fun u : Int32 × (Nat → Int32) × (Nat → Int32) × (Nat → Int32) => u = M_En_take ro ty ct pl p0 p1 p2) (fun u => some (.int u.1)) (fun u => [(h0, .inr (4, [.ref h1, .ref h3, .ref h4, .ref h5])), (h1, .inr (0, [.ref h2, .int ro.2.2])), (h2, .inl (cB, ro.1, .inl ro.2.1)), (h3, .inl (cI, 41, .inl u.2.1)), (h4, .inl (cI, 41, .inl u.2.2.1)), (h5, .inl (cI, 41, .inl u.2.2.2))]) (0) (0) := by
  refine Ct.intro (by decide +kernel) (Nat.le_of_ble_eq_true rfl) ?_
  intro p e s m below meth c hx hb hr hml hlocks hnm hown hK A hAe hA hS hP hD ls hl Q hQ
  have hown : s.vm.findClass "PictureFile$Entries" = some m.cls := hown
  have hH : Hold classes BW D (TY cB cI cJ) p s m c b_En_take 11 "PictureFile$Entries" := ⟨bw_ok, hx, hb, hml, hown, hK⟩
  have hw : ∀ {w : Cond}, w ∈ BW → w.before ([.ref h0, .int p0, .int p1, .int p2] : List Value).toArray s = true := fun h => Wd.at bw_ok hK.2 h
  have hl : lv_has ls 11 [(0, .ref h0), (1, .int p0), (2, .int p1), (3, .int p2)] := hl
  have bo0ro := RowOK.le hro
  refine lv_iload_n hx hb d_En_take_0 rfl (lv_at hl 2 rfl) ?_
  refine ct_finP (ct_runS (n := 1) (As := [.int p1]) (rest := []) hH (c_En_widestType p1 _) ⟨cal_En_widestType, ⟨Nat.le_of_ble_eq_true rfl, Nat.le_of_ble_eq_true rfl⟩, (Nat.le_of_ble_eq_true rfl), (Nat.le_of_ble_eq_true rfl)⟩ kw_132 kw_133 kw_134 kw_135 (hP.sub (ws' := []) [] rfl) (hD.sub (ws' := []) [] rfl rfl) rfl hl.1 (Nat.le_of_ble_eq_true rfl) d_En_take_1) hP hS (fun H hP hS => ?_)
  refine W.eq (g2 := F0 m 4 ls [.int (M_En_widestType p1)]) rfl ?_
  refine lv_if_ne (tgt := 9) hx hb d_En_take_4 (by decide) (fun c_1 => ?_) (fun c_1 => ?_)
  · refine lv_aload_n hx hb d_En_take_9 rfl (lv_at hl 0 rfl) ?_
    refine va_get (D := D) (ci := 4) (C := R_En) (T := F_En) (N := 4) hx hb (kl_En hK.2) (fun _ h => h) hown hK.1 hP 0 rfl rfl 0 (by decide) (hw kw_140) (fun _ h9 => h9) rfl d_En_take_10 ?_
    refine lv_iload_n hx hb d_En_take_13 rfl (lv_at hl 1 rfl) ?_
    refine lv_iconst (v := 2) hx hb d_En_take_14 (by decide) ?_
    refine lv_iadd hx hb d_En_take_15 ?_
    refine lv_i2l hx hb d_En_take_16 rfl ?_
    refine lv_iconst (v := 2) hx hb d_En_take_17 (by decide) ?_
    refine lv_iload_n hx hb d_En_take_18 rfl (lv_at hl 3 rfl) ?_
    refine ct_finP (ct_runVN (host := "PictureFile") (n := 3) (C := R_Row) (b := h1) (As := [.long ((p0 + 2).toInt64), .int 2, .int p2]) (rest := []) hH (c_Row_number h1 h2 ro hro ((p0 + 2).toInt64) 2 p2 _) ⟨cal_Row_number, ⟨Nat.le_of_ble_eq_true rfl, Nat.le_of_ble_eq_true rfl⟩, (Nat.le_of_ble_eq_true rfl), (Nat.le_of_ble_eq_true rfl)⟩ kw_141 kw_142 kw_24 kw_143 kw_144 (va_recv hK.1 hP (ci := 0) (q0 := 1) rfl rfl) (hP.sub (ws' := [(h1, .inr (0, [.ref h2, .int ro.2.2])), (h2, .inl (cB, ro.1, .inl ro.2.1))]) [1, 2] rfl) (hD.sub (ws' := [(h1, .inr (0, [.ref h2, .int ro.2.2])), (h2, .inl (cB, ro.1, .inl ro.2.1))]) [1, 2] rfl rfl) rfl hl.1 (Nat.le_of_ble_eq_true rfl) d_En_take_19) hP hS (fun H hP hS => ?_)
    refine W.eq (g2 := F0 m 22 ls [.long (M_Row_number ro ((p0 + 2).toInt64) 2 p2)]) rfl ?_
    refine lv_l2i hx hb d_En_take_22 rfl ?_
    refine lv_istore (lv' := [(4, .int ((M_Row_number ro ((p0 + 2).toInt64) 2 p2).toInt32)), (0, .ref h0), (1, .int p0), (2, .int p1), (3, .int p2)]) hx hb d_En_take_23 hl (by decide) rfl (fun ls hl => ?_)
    refine lv_aload_n hx hb d_En_take_25 rfl (lv_at hl 1 rfl) ?_
    refine va_get (D := D) (ci := 4) (C := R_En) (T := F_En) (N := 4) hx hb (kl_En hK.2) (fun _ h => h) hown hK.1 hP 0 rfl rfl 0 (by decide) (hw kw_140) (fun _ h9 => h9) rfl d_En_take_26 ?_
    refine lv_iload_n hx hb d_En_take_29 rfl (lv_at hl 2 rfl) ?_
    refine lv_iconst (v := 4) hx hb d_En_take_30 (by decide) ?_
    refine lv_iadd hx hb d_En_take_31 ?_
    refine lv_i2l hx hb d_En_take_32 rfl ?_
    refine lv_iconst (v := 4) hx hb d_En_take_33 (by decide) ?_
    refine lv_iload_n hx hb d_En_take_34 rfl (lv_at hl 4 rfl) ?_
    refine ct_finP (ct_runVN (host := "PictureFile") (n := 3) (C := R_Row) (b := h1) (As := [.long ((p0 + 4).toInt64), .int 4, .int p2]) (rest := []) hH (c_Row_number h1 h2 ro hro ((p0 + 4).toInt64) 4 p2 _) ⟨cal_Row_number, ⟨Nat.le_of_ble_eq_true rfl, Nat.le_of_ble_eq_true rfl⟩, (Nat.le_of_ble_eq_true rfl), (Nat.le_of_ble_eq_true rfl)⟩ kw_141 kw_142 kw_24 kw_143 kw_144 (va_recv hK.1 hP (ci := 0) (q0 := 1) rfl rfl) (hP.sub (ws' := [(h1, .inr (0, [.ref h2, .int ro.2.2])), (h2, .inl (cB, ro.1, .inl ro.2.1))]) [1, 2] rfl) (hD.sub (ws' := [(h1, .inr (0, [.ref h2, .int ro.2.2])), (h2, .inl (cB, ro.1, .inl ro.2.1))]) [1, 2] rfl rfl) rfl hl.1 (Nat.le_of_ble_eq_true rfl) d_En_take_35) hP hS (fun H hP hS => ?_)
    refine W.eq (g2 := F0 m 38 ls [.long (M_Row_number ro ((p0 + 4).toInt64) 4 p2)]) rfl ?_
    refine lv_lstore (lv' := [(5, .long (M_Row_number ro ((p0 + 4).toInt64) 4 p2)), (4, .int ((M_Row_number ro ((p0 + 2).toInt64) 2 p2).toInt32)), (0, .ref h0), (1, .int p0), (2, .int p1), (3, .int p2)]) hx hb d_En_take_38 hl (by decide) rfl (fun ls hl => ?_)
    refine lv_iload_n hx hb d_En_take_40 rfl (lv_at hl 4 rfl) ?_
    refine lv_iload hx hb d_En_take_41 (lv_at hl 1 rfl) ?_
    refine ct_finP (ct_runS (n := 2) (As := [.int p1, .int ((M_Row_number ro ((p0 + 2).toInt64) 2 p2).toInt32)]) (rest := []) hH (c_En_canHaveType p1 ((M_Row_number ro ((p0 + 2).toInt64) 2 p2).toInt32) _) ⟨cal_En_canHaveType, ⟨Nat.le_of_ble_eq_true rfl, Nat.le_of_ble_eq_true rfl⟩, (Nat.le_of_ble_eq_true rfl), (Nat.le_of_ble_eq_true rfl)⟩ kw_145 kw_146 kw_134 kw_147 (hP.sub (ws' := []) [] rfl) (hD.sub (ws' := []) [] rfl rfl) rfl hl.1 (Nat.le_of_ble_eq_true rfl) d_En_take_43) hP hS (fun H hP hS => ?_)
    refine W.eq (g2 := F0 m 46 ls [.int (M_En_canHaveType p1 ((M_Row_number ro ((p0 + 2).toInt64) 2 p2).toInt32))]) rfl ?_
    refine lv_if_eq (tgt := 58) hx hb d_En_take_46 (by decide) (fun c_2 => ?_) (fun c_2 => ?_)
    · refine lv_iconst (v := 4) hx hb d_En_take_58 (by decide) ?_
      have ef : M_En_take ro ty ct pl p0 p1 p2 = (4, ty, ct, pl) := by unfold M_En_take; (try dsimp only); rw [if_neg c_1]; rw [if_pos c_2]
      exact ct_iret hx hb hr rfl hlocks d_En_take_59 ⟨Nat.zero_le _, Nat.zero_le _⟩ hQ hAe hS (4, ty, ct, pl) rfl ef.symm (hP.sub [0, 1, 2, 3, 4, 5] rfl) (hD.sub [0, 1, 2, 3, 4, 5] rfl rfl)
    · refine lv_iload_n hx hb d_En_take_49 rfl (lv_at hl 4 rfl) ?_
      refine lv_lload hx hb d_En_take_50 (lv_at hl 0 rfl) ?_
      refine ct_finP (ct_runS (n := 2) (As := [.int p1, .long (M_Row_number ro ((p0 + 4).toInt64) 4 p2)]) (rest := []) hH (c_En_canHaveCount p1 (M_Row_number ro ((p0 + 4).toInt64) 4 p2) _) ⟨cal_En_canHaveCount, ⟨Nat.le_of_ble_eq_true rfl, Nat.le_of_ble_eq_true rfl⟩, (Nat.le_of_ble_eq_true rfl), (Nat.le_of_ble_eq_true rfl)⟩ kw_148 kw_149 kw_134 kw_150 (hP.sub (ws' := []) [] rfl) (hD.sub (ws' := []) [] rfl rfl) rfl hl.1 (Nat.le_of_ble_eq_true rfl) d_En_take_52) hP hS (fun H hP hS => ?_)
      refine W.eq (g2 := F0 m 55 ls [.int (M_En_canHaveCount p1 (M_Row_number ro ((p0 + 4).toInt64) 4 p2))]) rfl ?_
      refine lv_if_ne (tgt := 60) hx hb d_En_take_55 (by decide) (fun c_3 => ?_) (fun c_3 => ?_)
      · refine lv_lload hx hb d_En_take_60 (lv_at hl 0 rfl) ?_
        refine lv_iload hx hb d_En_take_62 (lv_at hl 1 rfl) ?_
        refine ct_finP (ct_runS (n := 1) (As := [.int ((M_Row_number ro ((p0 + 2).toInt64) 2 p2).toInt32)]) (rest := [.long (M_Row_number ro ((p0 + 4).toInt64) 4 p2)]) hH (c_En_bytesOf ((M_Row_number ro ((p0 + 2).toInt64) 2 p2).toInt32) _) ⟨cal_En_bytesOf, ⟨Nat.le_of_ble_eq_true rfl, Nat.le_of_ble_eq_true rfl⟩, (Nat.le_of_ble_eq_true rfl), (Nat.le_of_ble_eq_true rfl)⟩ kw_151 kw_152 kw_134 kw_153 (hP.sub (ws' := []) [] rfl) (hD.sub (ws' := []) [] rfl rfl) rfl hl.1 (Nat.le_of_ble_eq_true rfl) d_En_take_64) hP hS (fun H hP hS => ?_)
        refine W.eq (g2 := F0 m 67 ls [.int (M_En_bytesOf ((M_Row_number ro ((p0 + 2).toInt64) 2 p2).toInt32)), .long (M_Row_number ro ((p0 + 4).toInt64) 4 p2)]) rfl ?_
        refine lv_i2l hx hb d_En_take_67 rfl ?_
        refine lv_lmul hx hb d_En_take_68 ?_
        refine lv_lstore (lv' := [(7, .long ((M_Row_number ro ((p0 + 4).toInt64) 4 p2) * (M_En_bytesOf ((M_Row_number ro ((p0 + 2).toInt64) 2 p2).toInt32)).toInt64)), (5, .long (M_Row_number ro ((p0 + 4).toInt64) 4 p2)), (4, .int ((M_Row_number ro ((p0 + 2).toInt64) 2 p2).toInt32)), (0, .ref h0), (1, .int p0), (2, .int p1), (3, .int p2)]) hx hb d_En_take_69 hl (by decide) rfl (fun ls hl => ?_)
        refine lv_lload hx hb d_En_take_71 (lv_at hl 0 rfl) ?_
        refine lv_ldc2 (v := 4) hx hb hown (hw kw_154) d_En_take_73 ?_
        refine W.lcmp hx hb d_En_take_76 ?_
        refine lv_if_gt (tgt := 88) hx hb d_En_take_77 (by decide) (fun c_4 => ?_) (fun c_4 => ?_)
        · refine lv_aload_n hx hb d_En_take_88 rfl (lv_at hl 3 rfl) ?_
          refine va_get (D := D) (ci := 4) (C := R_En) (T := F_En) (N := 4) hx hb (kl_En hK.2) (fun _ h => h) hown hK.1 hP 0 rfl rfl 0 (by decide) (hw kw_140) (fun _ h9 => h9) rfl d_En_take_89 ?_
          refine lv_iload_n hx hb d_En_take_92 rfl (lv_at hl 4 rfl) ?_
          refine lv_bipush (v := 8) hx hb d_En_take_93 (by decide) ?_
          refine lv_iadd hx hb d_En_take_95 ?_
          refine lv_i2l hx hb d_En_take_96 rfl ?_
          refine lv_iconst (v := 4) hx hb d_En_take_97 (by decide) ?_
          refine lv_iload_n hx hb d_En_take_98 rfl (lv_at hl 6 rfl) ?_
          refine ct_finP (ct_runVN (host := "PictureFile") (n := 3) (C := R_Row) (b := h1) (As := [.long ((p0 + 8).toInt64), .int 4, .int p2]) (rest := []) hH (c_Row_number h1 h2 ro hro ((p0 + 8).toInt64) 4 p2 _) ⟨cal_Row_number, ⟨Nat.le_of_ble_eq_true rfl, Nat.le_of_ble_eq_true rfl⟩, (Nat.le_of_ble_eq_true rfl), (Nat.le_of_ble_eq_true rfl)⟩ kw_141 kw_142 kw_24 kw_143 kw_144 (va_recv hK.1 hP (ci := 0) (q0 := 1) rfl rfl) (hP.sub (ws' := [(h1, .inr (0, [.ref h2, .int ro.2.2])), (h2, .inl (cB, ro.1, .inl ro.2.1))]) [1, 2] rfl) (hD.sub (ws' := [(h1, .inr (0, [.ref h2, .int ro.2.2])), (h2, .inl (cB, ro.1, .inl ro.2.1))]) [1, 2] rfl rfl) rfl hl.1 (Nat.le_of_ble_eq_true rfl) d_En_take_99) hP hS (fun H hP hS => ?_)
          refine W.eq (g2 := F0 m 102 ls [.long (M_Row_number ro ((p0 + 8).toInt64) 4 p2)]) rfl ?_
          refine lv_lstore (lv' := [(9, .long (M_Row_number ro ((p0 + 8).toInt64) 4 p2)), (7, .long ((M_Row_number ro ((p0 + 4).toInt64) 4 p2) * (M_En_bytesOf ((M_Row_number ro ((p0 + 2).toInt64) 2 p2).toInt32)).toInt64)), (5, .long (M_Row_number ro ((p0 + 4).toInt64) 4 p2)), (4, .int ((M_Row_number ro ((p0 + 2).toInt64) 2 p2).toInt32)), (0, .ref h0), (1, .int p0), (2, .int p1), (3, .int p2)]) hx hb d_En_take_102 hl (by decide) rfl (fun ls hl => ?_)
          refine lv_lload hx hb d_En_take_104 (lv_at hl 0 rfl) ?_
          refine lv_lload hx hb d_En_take_106 (lv_at hl 1 rfl) ?_
          refine lv_ladd hx hb d_En_take_108 ?_
          refine lv_aload_n hx hb d_En_take_109 rfl (lv_at hl 4 rfl) ?_
          refine va_get (D := D) (ci := 4) (C := R_En) (T := F_En) (N := 4) hx hb (kl_En hK.2) (fun _ h => h) hown hK.1 hP 0 rfl rfl 0 (by decide) (hw kw_140) (fun _ h9 => h9) rfl d_En_take_110 ?_
          refine va_getN (host := "PictureFile") (D := D) (ci := 0) (C := R_Row) (T := F_Row) (N := 2) hx hb (kl_Row hK.2) (fun _ h => h) hown hK.1 hP 1 rfl rfl 1 (by decide) (hw kw_155) (fun _ h9 => h9) rfl d_En_take_113 ?_
          refine lv_i2l hx hb d_En_take_116 rfl ?_
          refine W.lcmp hx hb d_En_take_117 ?_
          refine lv_if_le (tgt := 123) hx hb d_En_take_118 (by decide) (fun c_5 => ?_) (fun c_5 => ?_)
          · refine lv_aload_n hx hb d_En_take_123 rfl (lv_at hl 4 rfl) ?_
            refine lv_iload_n hx hb d_En_take_124 rfl (lv_at hl 6 rfl) ?_
            refine lv_sipush (v := 256) hx hb d_En_take_125 (by decide) ?_
            refine lv_isub hx hb d_En_take_128 ?_
            refine lv_iload hx hb d_En_take_129 (lv_at hl 3 rfl) ?_
            refine lv_lload hx hb d_En_take_131 (lv_at hl 2 rfl) ?_
            refine lv_l2i hx hb d_En_take_133 rfl ?_
            refine lv_lload hx hb d_En_take_134 (lv_at hl 0 rfl) ?_
            refine lv_l2i hx hb d_En_take_136 rfl ?_
            refine ct_fin (wr := []) (ct_runV (n := 4) (C := R_En) (b := h0) (As := [.int (p1 - 256), .int ((M_Row_number ro ((p0 + 2).toInt64) 2 p2).toInt32), .int ((M_Row_number ro ((p0 + 4).toInt64) 4 p2).toInt32), .int ((M_Row_number ro ((p0 + 8).toInt64) 4 p2).toInt32)]) (rest := []) hH (c_En_keepEntry h0 h1 h2 h3 h4 h5 ro ty ct pl hro (p1 - 256) ((M_Row_number ro ((p0 + 2).toInt64) 2 p2).toInt32) ((M_Row_number ro ((p0 + 4).toInt64) 4 p2).toInt32) ((M_Row_number ro ((p0 + 8).toInt64) 4 p2).toInt32) _) ⟨cal_En_keepEntry, ⟨Nat.le_of_ble_eq_true rfl, Nat.le_of_ble_eq_true rfl⟩, (Nat.le_of_ble_eq_true rfl), (Nat.le_of_ble_eq_true rfl)⟩ kw_156 kw_157 kw_134 kw_158 kw_159 (va_recv hK.1 hP (ci := 4) (q0 := 0) rfl rfl) (hP.sub (ws' := [(h0, .inr (4, [.ref h1, .ref h3, .ref h4, .ref h5])), (h1, .inr (0, [.ref h2, .int ro.2.2])), (h2, .inl (cB, ro.1, .inl ro.2.1)), (h3, .inl (cI, 41, .inl ty)), (h4, .inl (cI, 41, .inl ct)), (h5, .inl (cI, 41, .inl pl))]) [0, 1, 2, 3, 4, 5] rfl) (hD.sub (ws' := [(h0, .inr (4, [.ref h1, .ref h3, .ref h4, .ref h5])), (h1, .inr (0, [.ref h2, .int ro.2.2])), (h2, .inl (cB, ro.1, .inl ro.2.1)), (h3, .inl (cI, 41, .inl ty)), (h4, .inl (cI, 41, .inl ct)), (h5, .inl (cI, 41, .inl pl))]) [0, 1, 2, 3, 4, 5] rfl rfl) rfl hl.1 (Nat.le_of_ble_eq_true rfl) d_En_take_137) hP hD hS hA [0, 1, 2, 3, 4, 5] [] rfl rfl rfl (by decide) (fun u H locs hp hP hD hS => ?_)
            obtain ⟨x1, rfl⟩ : ∃ z, z = u := ⟨_, rfl⟩
            have e1 := hp
            try dsimp only at e1
            have hP : va_P D classes [(h0, .inr (4, [.ref h1, .ref h3, .ref h4, .ref h5])), (h1, .inr (0, [.ref h2, .int ro.2.2])), (h2, .inl (cB, ro.1, .inl ro.2.1)), (h3, .inl (cI, 41, .inl x1.1)), (h4, .inl (cI, 41, .inl x1.2.1)), (h5, .inl (cI, 41, .inl x1.2.2))] H := hP
            have hD : va_D A [(h0, .inr (4, [.ref h1, .ref h3, .ref h4, .ref h5])), (h1, .inr (0, [.ref h2, .int ro.2.2])), (h2, .inl (cB, ro.1, .inl ro.2.1)), (h3, .inl (cI, 41, .inl x1.1)), (h4, .inl (cI, 41, .inl x1.2.1)), (h5, .inl (cI, 41, .inl x1.2.2))] := hD
            refine W.eq (g2 := F0 m 140 ls []) rfl ?_
            refine lv_iconst (v := 0) hx hb d_En_take_140 (by decide) ?_
            have ef : M_En_take ro ty ct pl p0 p1 p2 = (0, x1.1, x1.2.1, x1.2.2) := by unfold M_En_take; (try dsimp only); rw [if_neg c_1]; rw [if_neg c_2]; rw [if_neg c_3]; rw [if_pos c_4]; rw [if_pos c_5]; (try rw [← e1])
            exact ct_iret hx hb hr rfl hlocks d_En_take_141 ⟨Nat.zero_le _, Nat.zero_le _⟩ hQ hAe hS (0, x1.1, x1.2.1, x1.2.2) rfl ef.symm (hP.sub [0, 1, 2, 3, 4, 5] rfl) (hD.sub [0, 1, 2, 3, 4, 5] rfl rfl)
          · refine lv_iconst (v := 5) hx hb d_En_take_121 (by decide) ?_
            have ef : M_En_take ro ty ct pl p0 p1 p2 = (5, ty, ct, pl) := by unfold M_En_take; (try dsimp only); rw [if_neg c_1]; rw [if_neg c_2]; rw [if_neg c_3]; rw [if_pos c_4]; rw [if_neg c_5]
            exact ct_iret hx hb hr rfl hlocks d_En_take_122 ⟨Nat.zero_le _, Nat.zero_le _⟩ hQ hAe hS (5, ty, ct, pl) rfl ef.symm (hP.sub [0, 1, 2, 3, 4, 5] rfl) (hD.sub [0, 1, 2, 3, 4, 5] rfl rfl)
        · refine lv_iload_n hx hb d_En_take_80 rfl (lv_at hl 4 rfl) ?_
          refine lv_bipush (v := 8) hx hb d_En_take_81 (by decide) ?_
          refine lv_iadd hx hb d_En_take_83 ?_
          refine lv_i2l hx hb d_En_take_84 rfl ?_
          refine lv_goto (tgt := 102) hx hb d_En_take_85 (by decide) ?_
          refine lv_lstore (lv' := [(9, .long ((p0 + 8).toInt64)), (7, .long ((M_Row_number ro ((p0 + 4).toInt64) 4 p2) * (M_En_bytesOf ((M_Row_number ro ((p0 + 2).toInt64) 2 p2).toInt32)).toInt64)), (5, .long (M_Row_number ro ((p0 + 4).toInt64) 4 p2)), (4, .int ((M_Row_number ro ((p0 + 2).toInt64) 2 p2).toInt32)), (0, .ref h0), (1, .int p0), (2, .int p1), (3, .int p2)]) hx hb d_En_take_102 hl (by decide) rfl (fun ls hl => ?_)
          refine lv_lload hx hb d_En_take_104 (lv_at hl 0 rfl) ?_
          refine lv_lload hx hb d_En_take_106 (lv_at hl 1 rfl) ?_
          refine lv_ladd hx hb d_En_take_108 ?_
          refine lv_aload_n hx hb d_En_take_109 rfl (lv_at hl 4 rfl) ?_
          refine va_get (D := D) (ci := 4) (C := R_En) (T := F_En) (N := 4) hx hb (kl_En hK.2) (fun _ h => h) hown hK.1 hP 0 rfl rfl 0 (by decide) (hw kw_140) (fun _ h9 => h9) rfl d_En_take_110 ?_
          refine va_getN (host := "PictureFile") (D := D) (ci := 0) (C := R_Row) (T := F_Row) (N := 2) hx hb (kl_Row hK.2) (fun _ h => h) hown hK.1 hP 1 rfl rfl 1 (by decide) (hw kw_155) (fun _ h9 => h9) rfl d_En_take_113 ?_
          refine lv_i2l hx hb d_En_take_116 rfl ?_
          refine W.lcmp hx hb d_En_take_117 ?_
          refine lv_if_le (tgt := 123) hx hb d_En_take_118 (by decide) (fun c_6 => ?_) (fun c_6 => ?_)
          · refine lv_aload_n hx hb d_En_take_123 rfl (lv_at hl 4 rfl) ?_
            refine lv_iload_n hx hb d_En_take_124 rfl (lv_at hl 6 rfl) ?_
            refine lv_sipush (v := 256) hx hb d_En_take_125 (by decide) ?_
            refine lv_isub hx hb d_En_take_128 ?_
            refine lv_iload hx hb d_En_take_129 (lv_at hl 3 rfl) ?_
            refine lv_lload hx hb d_En_take_131 (lv_at hl 2 rfl) ?_
            refine lv_l2i hx hb d_En_take_133 rfl ?_
            refine lv_lload hx hb d_En_take_134 (lv_at hl 0 rfl) ?_
            refine lv_l2i hx hb d_En_take_136 rfl ?_
            refine ct_fin (wr := []) (ct_runV (n := 4) (C := R_En) (b := h0) (As := [.int (p1 - 256), .int ((M_Row_number ro ((p0 + 2).toInt64) 2 p2).toInt32), .int ((M_Row_number ro ((p0 + 4).toInt64) 4 p2).toInt32), .int (((p0 + 8).toInt64).toInt32)]) (rest := []) hH (c_En_keepEntry h0 h1 h2 h3 h4 h5 ro ty ct pl hro (p1 - 256) ((M_Row_number ro ((p0 + 2).toInt64) 2 p2).toInt32) ((M_Row_number ro ((p0 + 4).toInt64) 4 p2).toInt32) (((p0 + 8).toInt64).toInt32) _) ⟨cal_En_keepEntry, ⟨Nat.le_of_ble_eq_true rfl, Nat.le_of_ble_eq_true rfl⟩, (Nat.le_of_ble_eq_true rfl), (Nat.le_of_ble_eq_true rfl)⟩ kw_156 kw_157 kw_134 kw_158 kw_159 (va_recv hK.1 hP (ci := 4) (q0 := 0) rfl rfl) (hP.sub (ws' := [(h0, .inr (4, [.ref h1, .ref h3, .ref h4, .ref h5])), (h1, .inr (0, [.ref h2, .int ro.2.2])), (h2, .inl (cB, ro.1, .inl ro.2.1)), (h3, .inl (cI, 41, .inl ty)), (h4, .inl (cI, 41, .inl ct)), (h5, .inl (cI, 41, .inl pl))]) [0, 1, 2, 3, 4, 5] rfl) (hD.sub (ws' := [(h0, .inr (4, [.ref h1, .ref h3, .ref h4, .ref h5])), (h1, .inr (0, [.ref h2, .int ro.2.2])), (h2, .inl (cB, ro.1, .inl ro.2.1)), (h3, .inl (cI, 41, .inl ty)), (h4, .inl (cI, 41, .inl ct)), (h5, .inl (cI, 41, .inl pl))]) [0, 1, 2, 3, 4, 5] rfl rfl) rfl hl.1 (Nat.le_of_ble_eq_true rfl) d_En_take_137) hP hD hS hA [0, 1, 2, 3, 4, 5] [] rfl rfl rfl (by decide) (fun u H locs hp hP hD hS => ?_)
            obtain ⟨x2, rfl⟩ : ∃ z, z = u := ⟨_, rfl⟩
            have e2 := hp
            try dsimp only at e2
            have hP : va_P D classes [(h0, .inr (4, [.ref h1, .ref h3, .ref h4, .ref h5])), (h1, .inr (0, [.ref h2, .int ro.2.2])), (h2, .inl (cB, ro.1, .inl ro.2.1)), (h3, .inl (cI, 41, .inl x2.1)), (h4, .inl (cI, 41, .inl x2.2.1)), (h5, .inl (cI, 41, .inl x2.2.2))] H := hP
            have hD : va_D A [(h0, .inr (4, [.ref h1, .ref h3, .ref h4, .ref h5])), (h1, .inr (0, [.ref h2, .int ro.2.2])), (h2, .inl (cB, ro.1, .inl ro.2.1)), (h3, .inl (cI, 41, .inl x2.1)), (h4, .inl (cI, 41, .inl x2.2.1)), (h5, .inl (cI, 41, .inl x2.2.2))] := hD
            refine W.eq (g2 := F0 m 140 ls []) rfl ?_
            refine lv_iconst (v := 0) hx hb d_En_take_140 (by decide) ?_
            have ef : M_En_take ro ty ct pl p0 p1 p2 = (0, x2.1, x2.2.1, x2.2.2) := by unfold M_En_take; (try dsimp only); rw [if_neg c_1]; rw [if_neg c_2]; rw [if_neg c_3]; rw [if_neg c_4]; rw [if_pos c_6]; (try rw [← e2])
            exact ct_iret hx hb hr rfl hlocks d_En_take_141 ⟨Nat.zero_le _, Nat.zero_le _⟩ hQ hAe hS (0, x2.1, x2.2.1, x2.2.2) rfl ef.symm (hP.sub [0, 1, 2, 3, 4, 5] rfl) (hD.sub [0, 1, 2, 3, 4, 5] rfl rfl)
          · refine lv_iconst (v := 5) hx hb d_En_take_121 (by decide) ?_
            have ef : M_En_take ro ty ct pl p0 p1 p2 = (5, ty, ct, pl) := by unfold M_En_take; (try dsimp only); rw [if_neg c_1]; rw [if_neg c_2]; rw [if_neg c_3]; rw [if_neg c_4]; rw [if_neg c_6]
            exact ct_iret hx hb hr rfl hlocks d_En_take_122 ⟨Nat.zero_le _, Nat.zero_le _⟩ hQ hAe hS (5, ty, ct, pl) rfl ef.symm (hP.sub [0, 1, 2, 3, 4, 5] rfl) (hD.sub [0, 1, 2, 3, 4, 5] rfl rfl)
      · refine lv_iconst (v := 4) hx hb d_En_take_58 (by decide) ?_
        have ef : M_En_take ro ty ct pl p0 p1 p2 = (4, ty, ct, pl) := by unfold M_En_take; (try dsimp only); rw [if_neg c_1]; rw [if_neg c_2]; rw [if_pos c_3]
        exact ct_iret hx hb hr rfl hlocks d_En_take_59 ⟨Nat.zero_le _, Nat.zero_le _⟩ hQ hAe hS (4, ty, ct, pl) rfl ef.symm (hP.sub [0, 1, 2, 3, 4, 5] rfl) (hD.sub [0, 1, 2, 3, 4, 5] rfl rfl)
  · refine lv_iconst (v := 0) hx hb d_En_take_7 (by decide) ?_
    have ef : M_En_take ro ty ct pl p0 p1 p2 = (0, ty, ct, pl) := by unfold M_En_take; (try dsimp only); rw [if_pos c_1]
    exact ct_iret hx hb hr rfl hlocks d_En_take_8 ⟨Nat.zero_le _, Nat.zero_le _⟩ hQ hAe hS (0, ty, ct, pl) rfl ef.symm (hP.sub [0, 1, 2, 3, 4, 5] rfl) (hD.sub [0, 1, 2, 3, 4, 5] rfl rfl)
set_option maxHeartbeats 4000000 in
set_option maxRecDepth 100000 in
theorem c_En_countOf {l : Launch} {D : va_G} {cB cI cJ : ClassId} (h0 h1 h2 h3 h4 h5 : Nat) (ro : RowS) (ty : Nat → Int32) (ct : Nat → Int32) (pl : Nat → Int32) (hro : RowOK ro) (p0 : Int32) : CtP classes BW l D (TY cB cI cJ) y_En_countOf b_En_countOf 3 (some .int) ({ frames := 0, cells := 0, slots := 0, locals := 0 } : Room) [.ref h0, .int p0] [(h0, .inr (4, [.ref h1, .ref h3, .ref h4, .ref h5])), (h1, .inr (0, [.ref h2, .int ro.2.2])), (h2, .inl (cB, ro.1, .inl ro.2.1)), (h3, .inl (cI, 41, .inl ty)), (h4, .inl (cI, 41, .inl ct)), (h5, .inl (cI, 41, .inl pl))] (some (.int (M_En_countOf ct p0))) := by
  refine CtP.intro (by decide +kernel) (Nat.le_of_ble_eq_true rfl) ?_
  intro p e s m below meth c hx hb hr hml hlocks hnm hown hK hS hP hD ls hl Q hQ
  have hown : s.vm.findClass "PictureFile$Entries" = some m.cls := hown
  have hH : Hold classes BW D (TY cB cI cJ) p s m c b_En_countOf 3 "PictureFile$Entries" := ⟨bw_ok, hx, hb, hml, hown, hK⟩
  have hw : ∀ {w : Cond}, w ∈ BW → w.before ([.ref h0, .int p0] : List Value).toArray s = true := fun h => Wd.at bw_ok hK.2 h
  have hl : lv_has ls 3 [(0, .ref h0), (1, .int p0)] := hl
  have bo0ro := RowOK.le hro
  refine lv_iload_n hx hb d_En_countOf_0 rfl (lv_at hl 1 rfl) ?_
  refine lv_sipush (v := 256) hx hb d_En_countOf_1 (by decide) ?_
  refine lv_isub hx hb d_En_countOf_4 ?_
  refine lv_istore_n (lv' := [(2, .int (p0 - 256)), (0, .ref h0), (1, .int p0)]) hx hb d_En_countOf_5 rfl hl (by decide) rfl (fun ls hl => ?_)
  refine lv_iload_n hx hb d_En_countOf_6 rfl (lv_at hl 0 rfl) ?_
  refine lv_if_lt (tgt := 25) hx hb d_En_countOf_7 (by decide) (fun c_1 => ?_) (fun c_1 => ?_)
  · refine lv_iconst (v := 0) hx hb d_En_countOf_25 (by decide) ?_
    have ef : M_En_countOf ct p0 = 0 := by unfold M_En_countOf; (try dsimp only); rw [if_pos c_1]
    exact ct_piret hx hb hr rfl hlocks d_En_countOf_26 hQ hS (by rw [ef])
  · refine lv_iload_n hx hb d_En_countOf_10 rfl (lv_at hl 0 rfl) ?_
    refine lv_bipush (v := 41) hx hb d_En_countOf_11 (by decide) ?_
    refine lv_icmp_ge (tgt := 25) hx hb d_En_countOf_13 (by decide) (fun c_2 => ?_) (fun c_2 => ?_)
    · refine lv_iconst (v := 0) hx hb d_En_countOf_25 (by decide) ?_
      have ef : M_En_countOf ct p0 = 0 := by unfold M_En_countOf; (try dsimp only); rw [if_neg c_1]; rw [if_pos c_2]
      exact ct_piret hx hb hr rfl hlocks d_En_countOf_26 hQ hS (by rw [ef])
    · refine lv_aload_n hx hb d_En_countOf_16 rfl (lv_at hl 1 rfl) ?_
      refine va_get (D := D) (ci := 4) (C := R_En) (T := F_En) (N := 4) hx hb (kl_En hK.2) (fun _ h => h) hown hK.1 hP 0 rfl rfl 2 (by decide) (hw kw_128) (fun _ h9 => h9) rfl d_En_countOf_17 ?_
      refine lv_iload_n hx hb d_En_countOf_20 rfl (lv_at hl 0 rfl) ?_
      refine va_iald hx hb hK.1 hP 4 1 rfl rfl (vp_int c_1 c_2 (by omega)) d_En_countOf_21 ?_
      refine lv_goto (tgt := 26) hx hb d_En_countOf_22 (by decide) ?_
      have ef : M_En_countOf ct p0 = (ct (p0 - 256).toNatClampNeg) := by unfold M_En_countOf; (try dsimp only); rw [if_neg c_1]; rw [if_neg c_2]
      exact ct_piret hx hb hr rfl hlocks d_En_countOf_26 hQ hS (by rw [ef])
set_option maxHeartbeats 4000000 in
set_option maxRecDepth 100000 in
theorem c_En_firstMissing {l : Launch} {D : va_G} {cB cI cJ : ClassId} (h0 h1 h2 h3 h4 h5 : Nat) (ro : RowS) (ty : Nat → Int32) (ct : Nat → Int32) (pl : Nat → Int32) (hro : RowOK ro) : CtP classes BW l D (TY cB cI cJ) y_En_firstMissing b_En_firstMissing 1 (some .int) ({ frames := 1, cells := 0, slots := 0, locals := 22 } : Room) [.ref h0] [(h0, .inr (4, [.ref h1, .ref h3, .ref h4, .ref h5])), (h1, .inr (0, [.ref h2, .int ro.2.2])), (h2, .inl (cB, ro.1, .inl ro.2.1)), (h3, .inl (cI, 41, .inl ty)), (h4, .inl (cI, 41, .inl ct)), (h5, .inl (cI, 41, .inl pl))] (some (.int (M_En_firstMissing ct))) := by
  refine CtP.intro (by decide +kernel) (Nat.le_of_ble_eq_true rfl) ?_
  intro p e s m below meth c hx hb hr hml hlocks hnm hown hK hS hP hD ls hl Q hQ
  have hown : s.vm.findClass "PictureFile$Entries" = some m.cls := hown
  have hH : Hold classes BW D (TY cB cI cJ) p s m c b_En_firstMissing 1 "PictureFile$Entries" := ⟨bw_ok, hx, hb, hml, hown, hK⟩
  have hw : ∀ {w : Cond}, w ∈ BW → w.before ([.ref h0] : List Value).toArray s = true := fun h => Wd.at bw_ok hK.2 h
  have hl : lv_has ls 1 [(0, .ref h0)] := hl
  have bo0ro := RowOK.le hro
  refine lv_aload_n hx hb d_En_firstMissing_0 rfl (lv_at hl 0 rfl) ?_
  refine lv_sipush (v := 256) hx hb d_En_firstMissing_1 (by decide) ?_
  refine ct_finP (ct_runV (n := 1) (C := R_En) (b := h0) (As := [.int 256]) (rest := []) hH (c_En_countOf h0 h1 h2 h3 h4 h5 ro ty ct pl hro 256 _) ⟨cal_En_countOf, ⟨Nat.le_of_ble_eq_true rfl, Nat.le_of_ble_eq_true rfl⟩, (Nat.le_of_ble_eq_true rfl), (Nat.le_of_ble_eq_true rfl)⟩ kw_160 kw_161 kw_134 kw_162 kw_163 (va_recv hK.1 hP (ci := 4) (q0 := 0) rfl rfl) (hP.sub (ws' := [(h0, .inr (4, [.ref h1, .ref h3, .ref h4, .ref h5])), (h1, .inr (0, [.ref h2, .int ro.2.2])), (h2, .inl (cB, ro.1, .inl ro.2.1)), (h3, .inl (cI, 41, .inl ty)), (h4, .inl (cI, 41, .inl ct)), (h5, .inl (cI, 41, .inl pl))]) [0, 1, 2, 3, 4, 5] rfl) (hD.sub (ws' := [(h0, .inr (4, [.ref h1, .ref h3, .ref h4, .ref h5])), (h1, .inr (0, [.ref h2, .int ro.2.2])), (h2, .inl (cB, ro.1, .inl ro.2.1)), (h3, .inl (cI, 41, .inl ty)), (h4, .inl (cI, 41, .inl ct)), (h5, .inl (cI, 41, .inl pl))]) [0, 1, 2, 3, 4, 5] rfl rfl) rfl hl.1 (Nat.le_of_ble_eq_true rfl) d_En_firstMissing_4) hP hS (fun H hP hS => ?_)
  refine W.eq (g2 := F0 m 7 ls [.int (M_En_countOf ct 256)]) rfl ?_
  refine lv_if_ne (tgt := 14) hx hb d_En_firstMissing_7 (by decide) (fun c_1 => ?_) (fun c_1 => ?_)
  · refine lv_aload_n hx hb d_En_firstMissing_14 rfl (lv_at hl 0 rfl) ?_
    refine lv_sipush (v := 257) hx hb d_En_firstMissing_15 (by decide) ?_
    refine ct_finP (ct_runV (n := 1) (C := R_En) (b := h0) (As := [.int 257]) (rest := []) hH (c_En_countOf h0 h1 h2 h3 h4 h5 ro ty ct pl hro 257 _) ⟨cal_En_countOf, ⟨Nat.le_of_ble_eq_true rfl, Nat.le_of_ble_eq_true rfl⟩, (Nat.le_of_ble_eq_true rfl), (Nat.le_of_ble_eq_true rfl)⟩ kw_160 kw_161 kw_134 kw_162 kw_163 (va_recv hK.1 hP (ci := 4) (q0 := 0) rfl rfl) (hP.sub (ws' := [(h0, .inr (4, [.ref h1, .ref h3, .ref h4, .ref h5])), (h1, .inr (0, [.ref h2, .int ro.2.2])), (h2, .inl (cB, ro.1, .inl ro.2.1)), (h3, .inl (cI, 41, .inl ty)), (h4, .inl (cI, 41, .inl ct)), (h5, .inl (cI, 41, .inl pl))]) [0, 1, 2, 3, 4, 5] rfl) (hD.sub (ws' := [(h0, .inr (4, [.ref h1, .ref h3, .ref h4, .ref h5])), (h1, .inr (0, [.ref h2, .int ro.2.2])), (h2, .inl (cB, ro.1, .inl ro.2.1)), (h3, .inl (cI, 41, .inl ty)), (h4, .inl (cI, 41, .inl ct)), (h5, .inl (cI, 41, .inl pl))]) [0, 1, 2, 3, 4, 5] rfl rfl) rfl hl.1 (Nat.le_of_ble_eq_true rfl) d_En_firstMissing_18) hP hS (fun H hP hS => ?_)
    refine W.eq (g2 := F0 m 21 ls [.int (M_En_countOf ct 257)]) rfl ?_
    refine lv_if_ne (tgt := 28) hx hb d_En_firstMissing_21 (by decide) (fun c_2 => ?_) (fun c_2 => ?_)
    · refine lv_aload_n hx hb d_En_firstMissing_28 rfl (lv_at hl 0 rfl) ?_
      refine lv_sipush (v := 273) hx hb d_En_firstMissing_29 (by decide) ?_
      refine ct_finP (ct_runV (n := 1) (C := R_En) (b := h0) (As := [.int 273]) (rest := []) hH (c_En_countOf h0 h1 h2 h3 h4 h5 ro ty ct pl hro 273 _) ⟨cal_En_countOf, ⟨Nat.le_of_ble_eq_true rfl, Nat.le_of_ble_eq_true rfl⟩, (Nat.le_of_ble_eq_true rfl), (Nat.le_of_ble_eq_true rfl)⟩ kw_160 kw_161 kw_134 kw_162 kw_163 (va_recv hK.1 hP (ci := 4) (q0 := 0) rfl rfl) (hP.sub (ws' := [(h0, .inr (4, [.ref h1, .ref h3, .ref h4, .ref h5])), (h1, .inr (0, [.ref h2, .int ro.2.2])), (h2, .inl (cB, ro.1, .inl ro.2.1)), (h3, .inl (cI, 41, .inl ty)), (h4, .inl (cI, 41, .inl ct)), (h5, .inl (cI, 41, .inl pl))]) [0, 1, 2, 3, 4, 5] rfl) (hD.sub (ws' := [(h0, .inr (4, [.ref h1, .ref h3, .ref h4, .ref h5])), (h1, .inr (0, [.ref h2, .int ro.2.2])), (h2, .inl (cB, ro.1, .inl ro.2.1)), (h3, .inl (cI, 41, .inl ty)), (h4, .inl (cI, 41, .inl ct)), (h5, .inl (cI, 41, .inl pl))]) [0, 1, 2, 3, 4, 5] rfl rfl) rfl hl.1 (Nat.le_of_ble_eq_true rfl) d_En_firstMissing_32) hP hS (fun H hP hS => ?_)
      refine W.eq (g2 := F0 m 35 ls [.int (M_En_countOf ct 273)]) rfl ?_
      refine lv_if_ne (tgt := 42) hx hb d_En_firstMissing_35 (by decide) (fun c_3 => ?_) (fun c_3 => ?_)
      · refine lv_aload_n hx hb d_En_firstMissing_42 rfl (lv_at hl 0 rfl) ?_
        refine lv_sipush (v := 279) hx hb d_En_firstMissing_43 (by decide) ?_
        refine ct_finP (ct_runV (n := 1) (C := R_En) (b := h0) (As := [.int 279]) (rest := []) hH (c_En_countOf h0 h1 h2 h3 h4 h5 ro ty ct pl hro 279 _) ⟨cal_En_countOf, ⟨Nat.le_of_ble_eq_true rfl, Nat.le_of_ble_eq_true rfl⟩, (Nat.le_of_ble_eq_true rfl), (Nat.le_of_ble_eq_true rfl)⟩ kw_160 kw_161 kw_134 kw_162 kw_163 (va_recv hK.1 hP (ci := 4) (q0 := 0) rfl rfl) (hP.sub (ws' := [(h0, .inr (4, [.ref h1, .ref h3, .ref h4, .ref h5])), (h1, .inr (0, [.ref h2, .int ro.2.2])), (h2, .inl (cB, ro.1, .inl ro.2.1)), (h3, .inl (cI, 41, .inl ty)), (h4, .inl (cI, 41, .inl ct)), (h5, .inl (cI, 41, .inl pl))]) [0, 1, 2, 3, 4, 5] rfl) (hD.sub (ws' := [(h0, .inr (4, [.ref h1, .ref h3, .ref h4, .ref h5])), (h1, .inr (0, [.ref h2, .int ro.2.2])), (h2, .inl (cB, ro.1, .inl ro.2.1)), (h3, .inl (cI, 41, .inl ty)), (h4, .inl (cI, 41, .inl ct)), (h5, .inl (cI, 41, .inl pl))]) [0, 1, 2, 3, 4, 5] rfl rfl) rfl hl.1 (Nat.le_of_ble_eq_true rfl) d_En_firstMissing_46) hP hS (fun H hP hS => ?_)
        refine W.eq (g2 := F0 m 49 ls [.int (M_En_countOf ct 279)]) rfl ?_
        refine lv_if_ne (tgt := 58) hx hb d_En_firstMissing_49 (by decide) (fun c_4 => ?_) (fun c_4 => ?_)
        · refine lv_iconst (v := 0) hx hb d_En_firstMissing_58 (by decide) ?_
          have ef : M_En_firstMissing ct = 0 := by unfold M_En_firstMissing; (try dsimp only); rw [if_neg c_1]; rw [if_neg c_2]; rw [if_neg c_3]; rw [if_neg c_4]
          exact ct_piret hx hb hr rfl hlocks d_En_firstMissing_59 hQ hS (by rw [ef])
        · refine lv_sipush (v := 279) hx hb d_En_firstMissing_52 (by decide) ?_
          refine lv_goto (tgt := 59) hx hb d_En_firstMissing_55 (by decide) ?_
          have ef : M_En_firstMissing ct = 279 := by unfold M_En_firstMissing; (try dsimp only); rw [if_neg c_1]; rw [if_neg c_2]; rw [if_neg c_3]; rw [if_pos c_4]
          exact ct_piret hx hb hr rfl hlocks d_En_firstMissing_59 hQ hS (by rw [ef])
      · refine lv_sipush (v := 273) hx hb d_En_firstMissing_38 (by decide) ?_
        have ef : M_En_firstMissing ct = 273 := by unfold M_En_firstMissing; (try dsimp only); rw [if_neg c_1]; rw [if_neg c_2]; rw [if_pos c_3]
        exact ct_piret hx hb hr rfl hlocks d_En_firstMissing_41 hQ hS (by rw [ef])
    · refine lv_sipush (v := 257) hx hb d_En_firstMissing_24 (by decide) ?_
      have ef : M_En_firstMissing ct = 257 := by unfold M_En_firstMissing; (try dsimp only); rw [if_neg c_1]; rw [if_pos c_2]
      exact ct_piret hx hb hr rfl hlocks d_En_firstMissing_27 hQ hS (by rw [ef])
  · refine lv_sipush (v := 256) hx hb d_En_firstMissing_10 (by decide) ?_
    have ef : M_En_firstMissing ct = 256 := by unfold M_En_firstMissing; (try dsimp only); rw [if_pos c_1]
    exact ct_piret hx hb hr rfl hlocks d_En_firstMissing_13 hQ hS (by rw [ef])
set_option maxHeartbeats 4000000 in
set_option maxRecDepth 100000 in
theorem c_En_number {l : Launch} {D : va_G} {cB cI cJ : ClassId} (h0 h1 h2 h3 h4 h5 : Nat) (ro : RowS) (ty : Nat → Int32) (ct : Nat → Int32) (pl : Nat → Int32) (hro : RowOK ro) (p0 : Int32) (p1 : Int32) (p2 : Int32) (p3 : Int64) : CtP classes BW l D (TY cB cI cJ) y_En_number b_En_number 8 (some .long) ({ frames := 2, cells := 0, slots := 0, locals := 49 } : Room) [.ref h0, .int p0, .int p1, .int p2, .long p3] [(h0, .inr (4, [.ref h1, .ref h3, .ref h4, .ref h5])), (h1, .inr (0, [.ref h2, .int ro.2.2])), (h2, .inl (cB, ro.1, .inl ro.2.1)), (h3, .inl (cI, 41, .inl ty)), (h4, .inl (cI, 41, .inl ct)), (h5, .inl (cI, 41, .inl pl))] (some (.long (M_En_number ro ty ct pl p0 p1 p2 p3))) := by
  refine CtP.intro (by decide +kernel) (Nat.le_of_ble_eq_true rfl) ?_
  intro p e s m below meth c hx hb hr hml hlocks hnm hown hK hS hP hD ls hl Q hQ
  have hown : s.vm.findClass "PictureFile$Entries" = some m.cls := hown
  have hH : Hold classes BW D (TY cB cI cJ) p s m c b_En_number 8 "PictureFile$Entries" := ⟨bw_ok, hx, hb, hml, hown, hK⟩
  have hw : ∀ {w : Cond}, w ∈ BW → w.before ([.ref h0, .int p0, .int p1, .int p2, .long p3] : List Value).toArray s = true := fun h => Wd.at bw_ok hK.2 h
  have hl : lv_has ls 8 [(0, .ref h0), (1, .int p0), (2, .int p1), (3, .int p2), (4, .long p3)] := hl
  have bo0ro := RowOK.le hro
  refine lv_iload_n hx hb d_En_number_0 rfl (lv_at hl 1 rfl) ?_
  refine lv_sipush (v := 256) hx hb d_En_number_1 (by decide) ?_
  refine lv_isub hx hb d_En_number_4 ?_
  refine lv_istore (lv' := [(6, .int (p0 - 256)), (0, .ref h0), (1, .int p0), (2, .int p1), (3, .int p2), (4, .long p3)]) hx hb d_En_number_5 hl (by decide) rfl (fun ls hl => ?_)
  refine lv_iload hx hb d_En_number_7 (lv_at hl 0 rfl) ?_
  refine lv_if_lt (tgt := 29) hx hb d_En_number_9 (by decide) (fun c_1 => ?_) (fun c_1 => ?_)
  · refine lv_lload hx hb d_En_number_29 (lv_at hl 5 rfl) ?_
    have ef : M_En_number ro ty ct pl p0 p1 p2 p3 = p3 := by unfold M_En_number; (try dsimp only); rw [if_pos c_1]
    exact ct_plret hx hb hr hlocks d_En_number_31 hQ hS (by rw [ef])
  · refine lv_iload hx hb d_En_number_12 (lv_at hl 0 rfl) ?_
    refine lv_bipush (v := 41) hx hb d_En_number_14 (by decide) ?_
    refine lv_icmp_ge (tgt := 29) hx hb d_En_number_16 (by decide) (fun c_2 => ?_) (fun c_2 => ?_)
    · refine lv_lload hx hb d_En_number_29 (lv_at hl 5 rfl) ?_
      have ef : M_En_number ro ty ct pl p0 p1 p2 p3 = p3 := by unfold M_En_number; (try dsimp only); rw [if_neg c_1]; rw [if_pos c_2]
      exact ct_plret hx hb hr hlocks d_En_number_31 hQ hS (by rw [ef])
    · refine lv_aload_n hx hb d_En_number_19 rfl (lv_at hl 1 rfl) ?_
      refine va_get (D := D) (ci := 4) (C := R_En) (T := F_En) (N := 4) hx hb (kl_En hK.2) (fun _ h => h) hown hK.1 hP 0 rfl rfl 2 (by decide) (hw kw_128) (fun _ h9 => h9) rfl d_En_number_20 ?_
      refine lv_iload hx hb d_En_number_23 (lv_at hl 0 rfl) ?_
      refine va_iald hx hb hK.1 hP 4 1 rfl rfl (vp_int c_1 c_2 (by omega)) d_En_number_25 ?_
      refine lv_if_ne (tgt := 32) hx hb d_En_number_26 (by decide) (fun c_3 => ?_) (fun c_3 => ?_)
      · refine lv_aload_n hx hb d_En_number_32 rfl (lv_at hl 1 rfl) ?_
        refine va_get (D := D) (ci := 4) (C := R_En) (T := F_En) (N := 4) hx hb (kl_En hK.2) (fun _ h => h) hown hK.1 hP 0 rfl rfl 1 (by decide) (hw kw_138) (fun _ h9 => h9) rfl d_En_number_33 ?_
        refine lv_iload hx hb d_En_number_36 (lv_at hl 0 rfl) ?_
        refine va_iald hx hb hK.1 hP 3 1 rfl rfl (vp_int c_1 c_2 (by omega)) d_En_number_38 ?_
        refine lv_iconst (v := 3) hx hb d_En_number_39 (by decide) ?_
        refine lv_icmp_ne (tgt := 47) hx hb d_En_number_40 (by decide) (fun c_4 => ?_) (fun c_4 => ?_)
        · refine lv_iconst (v := 4) hx hb d_En_number_47 (by decide) ?_
          refine lv_istore (lv' := [(7, .int 4), (6, .int (p0 - 256)), (0, .ref h0), (1, .int p0), (2, .int p1), (3, .int p2), (4, .long p3)]) hx hb d_En_number_48 hl (by decide) rfl (fun ls hl => ?_)
          refine lv_aload_n hx hb d_En_number_50 rfl (lv_at hl 2 rfl) ?_
          refine va_get (D := D) (ci := 4) (C := R_En) (T := F_En) (N := 4) hx hb (kl_En hK.2) (fun _ h => h) hown hK.1 hP 0 rfl rfl 0 (by decide) (hw kw_140) (fun _ h9 => h9) rfl d_En_number_51 ?_
          refine lv_aload_n hx hb d_En_number_54 rfl (lv_at hl 2 rfl) ?_
          refine va_get (D := D) (ci := 4) (C := R_En) (T := F_En) (N := 4) hx hb (kl_En hK.2) (fun _ h => h) hown hK.1 hP 0 rfl rfl 3 (by decide) (hw kw_139) (fun _ h9 => h9) rfl d_En_number_55 ?_
          refine lv_iload hx hb d_En_number_58 (lv_at hl 1 rfl) ?_
          refine va_iald hx hb hK.1 hP 5 1 rfl rfl (vp_int c_1 c_2 (by omega)) d_En_number_60 ?_
          refine lv_i2l hx hb d_En_number_61 rfl ?_
          refine lv_iload hx hb d_En_number_62 (lv_at hl 0 rfl) ?_
          refine lv_i2l hx hb d_En_number_64 rfl ?_
          refine lv_iload_n hx hb d_En_number_65 rfl (lv_at hl 4 rfl) ?_
          refine lv_i2l hx hb d_En_number_66 rfl ?_
          refine lv_lmul hx hb d_En_number_67 ?_
          refine lv_ladd hx hb d_En_number_68 ?_
          refine lv_iload hx hb d_En_number_69 (lv_at hl 0 rfl) ?_
          refine lv_iload_n hx hb d_En_number_71 rfl (lv_at hl 5 rfl) ?_
          refine ct_finP (ct_runVN (host := "PictureFile") (n := 3) (C := R_Row) (b := h1) (As := [.long ((pl (p0 - 256).toNatClampNeg).toInt64 + ((4 : Int32).toInt64 * p1.toInt64)), .int 4, .int p2]) (rest := []) hH (c_Row_number h1 h2 ro hro ((pl (p0 - 256).toNatClampNeg).toInt64 + ((4 : Int32).toInt64 * p1.toInt64)) 4 p2 _) ⟨cal_Row_number, ⟨Nat.le_of_ble_eq_true rfl, Nat.le_of_ble_eq_true rfl⟩, (Nat.le_of_ble_eq_true rfl), (Nat.le_of_ble_eq_true rfl)⟩ kw_141 kw_142 kw_24 kw_143 kw_144 (va_recv hK.1 hP (ci := 0) (q0 := 1) rfl rfl) (hP.sub (ws' := [(h1, .inr (0, [.ref h2, .int ro.2.2])), (h2, .inl (cB, ro.1, .inl ro.2.1))]) [1, 2] rfl) (hD.sub (ws' := [(h1, .inr (0, [.ref h2, .int ro.2.2])), (h2, .inl (cB, ro.1, .inl ro.2.1))]) [1, 2] rfl rfl) rfl hl.1 (Nat.le_of_ble_eq_true rfl) d_En_number_72) hP hS (fun H hP hS => ?_)
          refine W.eq (g2 := F0 m 75 ls [.long (M_Row_number ro ((pl (p0 - 256).toNatClampNeg).toInt64 + ((4 : Int32).toInt64 * p1.toInt64)) 4 p2)]) rfl ?_
          have ef : M_En_number ro ty ct pl p0 p1 p2 p3 = (M_Row_number ro ((pl (p0 - 256).toNatClampNeg).toInt64 + ((4 : Int32).toInt64 * p1.toInt64)) 4 p2) := by unfold M_En_number; (try dsimp only); rw [if_neg c_1]; rw [if_neg c_2]; rw [if_neg c_3]; rw [if_neg c_4]
          exact ct_plret hx hb hr hlocks d_En_number_75 hQ hS (by rw [ef])
        · refine lv_iconst (v := 2) hx hb d_En_number_43 (by decide) ?_
          refine lv_goto (tgt := 48) hx hb d_En_number_44 (by decide) ?_
          refine lv_istore (lv' := [(7, .int 2), (6, .int (p0 - 256)), (0, .ref h0), (1, .int p0), (2, .int p1), (3, .int p2), (4, .long p3)]) hx hb d_En_number_48 hl (by decide) rfl (fun ls hl => ?_)
          refine lv_aload_n hx hb d_En_number_50 rfl (lv_at hl 2 rfl) ?_
          refine va_get (D := D) (ci := 4) (C := R_En) (T := F_En) (N := 4) hx hb (kl_En hK.2) (fun _ h => h) hown hK.1 hP 0 rfl rfl 0 (by decide) (hw kw_140) (fun _ h9 => h9) rfl d_En_number_51 ?_
          refine lv_aload_n hx hb d_En_number_54 rfl (lv_at hl 2 rfl) ?_
          refine va_get (D := D) (ci := 4) (C := R_En) (T := F_En) (N := 4) hx hb (kl_En hK.2) (fun _ h => h) hown hK.1 hP 0 rfl rfl 3 (by decide) (hw kw_139) (fun _ h9 => h9) rfl d_En_number_55 ?_
          refine lv_iload hx hb d_En_number_58 (lv_at hl 1 rfl) ?_
          refine va_iald hx hb hK.1 hP 5 1 rfl rfl (vp_int c_1 c_2 (by omega)) d_En_number_60 ?_
          refine lv_i2l hx hb d_En_number_61 rfl ?_
          refine lv_iload hx hb d_En_number_62 (lv_at hl 0 rfl) ?_
          refine lv_i2l hx hb d_En_number_64 rfl ?_
          refine lv_iload_n hx hb d_En_number_65 rfl (lv_at hl 4 rfl) ?_
          refine lv_i2l hx hb d_En_number_66 rfl ?_
          refine lv_lmul hx hb d_En_number_67 ?_
          refine lv_ladd hx hb d_En_number_68 ?_
          refine lv_iload hx hb d_En_number_69 (lv_at hl 0 rfl) ?_
          refine lv_iload_n hx hb d_En_number_71 rfl (lv_at hl 5 rfl) ?_
          refine ct_finP (ct_runVN (host := "PictureFile") (n := 3) (C := R_Row) (b := h1) (As := [.long ((pl (p0 - 256).toNatClampNeg).toInt64 + ((2 : Int32).toInt64 * p1.toInt64)), .int 2, .int p2]) (rest := []) hH (c_Row_number h1 h2 ro hro ((pl (p0 - 256).toNatClampNeg).toInt64 + ((2 : Int32).toInt64 * p1.toInt64)) 2 p2 _) ⟨cal_Row_number, ⟨Nat.le_of_ble_eq_true rfl, Nat.le_of_ble_eq_true rfl⟩, (Nat.le_of_ble_eq_true rfl), (Nat.le_of_ble_eq_true rfl)⟩ kw_141 kw_142 kw_24 kw_143 kw_144 (va_recv hK.1 hP (ci := 0) (q0 := 1) rfl rfl) (hP.sub (ws' := [(h1, .inr (0, [.ref h2, .int ro.2.2])), (h2, .inl (cB, ro.1, .inl ro.2.1))]) [1, 2] rfl) (hD.sub (ws' := [(h1, .inr (0, [.ref h2, .int ro.2.2])), (h2, .inl (cB, ro.1, .inl ro.2.1))]) [1, 2] rfl rfl) rfl hl.1 (Nat.le_of_ble_eq_true rfl) d_En_number_72) hP hS (fun H hP hS => ?_)
          refine W.eq (g2 := F0 m 75 ls [.long (M_Row_number ro ((pl (p0 - 256).toNatClampNeg).toInt64 + ((2 : Int32).toInt64 * p1.toInt64)) 2 p2)]) rfl ?_
          have ef : M_En_number ro ty ct pl p0 p1 p2 p3 = (M_Row_number ro ((pl (p0 - 256).toNatClampNeg).toInt64 + ((2 : Int32).toInt64 * p1.toInt64)) 2 p2) := by unfold M_En_number; (try dsimp only); rw [if_neg c_1]; rw [if_neg c_2]; rw [if_neg c_3]; rw [if_pos c_4]
          exact ct_plret hx hb hr hlocks d_En_number_75 hQ hS (by rw [ef])
      · refine lv_lload hx hb d_En_number_29 (lv_at hl 5 rfl) ?_
        have ef : M_En_number ro ty ct pl p0 p1 p2 p3 = p3 := by unfold M_En_number; (try dsimp only); rw [if_neg c_1]; rw [if_neg c_2]; rw [if_pos c_3]
        exact ct_plret hx hb hr hlocks d_En_number_31 hQ hS (by rw [ef])
set_option maxHeartbeats 4000000 in
set_option maxRecDepth 100000 in
theorem c_Rd_hasPage {l : Launch} {D : va_G} {cB cI cJ : ClassId} (h0 h1 h2 h3 h4 h5 h6 h7 h8 h9 h10 h11 : Nat) (rd : Nat → Int32) (ro : RowS) (ty : Nat → Int32) (ct : Nat → Int32) (pl : Nat → Int32) (nu : Nat → Int64) (rs : RowS) (fs : Nat → Int32) (hro : RowOK ro) (hrs : StOK 8192 rs) (p0 : Int32) : CtP classes BW l D (TY cB cI cJ) y_Rd_hasPage b_Rd_hasPage 2 (some .boolean) ({ frames := 0, cells := 0, slots := 0, locals := 0 } : Room) [.ref h0, .int p0] [(h0, .inr (5, [.ref h1, .ref h3, .ref h7, .ref h9, .ref h11, .int (rd 0), .int (rd 1), .int (rd 2), .int (rd 3), .int (rd 4), .int (rd 5), .int (rd 6)])), (h1, .inr (0, [.ref h2, .int ro.2.2])), (h2, .inl (cB, ro.1, .inl ro.2.1)), (h3, .inr (4, [.ref h1, .ref h4, .ref h5, .ref h6])), (h4, .inl (cI, 41, .inl ty)), (h5, .inl (cI, 41, .inl ct)), (h6, .inl (cI, 41, .inl pl)), (h7, .inr (3, [.ref h8])), (h8, .inl (cJ, 520, .inr (.inl nu))), (h9, .inr (1, [.int 8192, .ref h10, .int rs.2.2])), (h10, .inl (cI, rs.1, .inl rs.2.1)), (h11, .inl (cI, 40, .inl fs))] (some (.int (M_Rd_hasPage rd p0))) := by
  refine CtP.intro (by decide +kernel) (Nat.le_of_ble_eq_true rfl) ?_
  intro p e s m below meth c hx hb hr hml hlocks hnm hown hK hS hP hD ls hl Q hQ
  have hown : s.vm.findClass "PictureFile$Reader" = some m.cls := hown
  have hH : Hold classes BW D (TY cB cI cJ) p s m c b_Rd_hasPage 2 "PictureFile$Reader" := ⟨bw_ok, hx, hb, hml, hown, hK⟩
  have hw : ∀ {w : Cond}, w ∈ BW → w.before ([.ref h0, .int p0] : List Value).toArray s = true := fun h => Wd.at bw_ok hK.2 h
  have hl : lv_has ls 2 [(0, .ref h0), (1, .int p0)] := hl
  have bo0ro := RowOK.le hro
  have bo0rs := StOK.le hrs
  refine lv_iload_n hx hb d_Rd_hasPage_0 rfl (lv_at hl 1 rfl) ?_
  refine lv_if_lt (tgt := 16) hx hb d_Rd_hasPage_1 (by decide) (fun c_1 => ?_) (fun c_1 => ?_)
  · refine lv_iconst (v := 0) hx hb d_Rd_hasPage_16 (by decide) ?_
    have ef : M_Rd_hasPage rd p0 = 0 := by unfold M_Rd_hasPage; (try dsimp only); rw [if_pos c_1]
    exact ct_piret hx hb hr (rfl) hlocks d_Rd_hasPage_17 hQ hS (by rw [ef])
  · refine lv_iload_n hx hb d_Rd_hasPage_4 rfl (lv_at hl 1 rfl) ?_
    refine lv_aload_n hx hb d_Rd_hasPage_5 rfl (lv_at hl 0 rfl) ?_
    refine va_get (D := D) (ci := 5) (C := R_Rd) (T := F_Rd) (N := 12) hx hb (kl_Rd hK.2) (fun _ h => h) hown hK.1 hP 0 rfl rfl 5 (by decide) (hw kw_164) (fun _ h9 => h9) rfl d_Rd_hasPage_6 ?_
    refine lv_icmp_ge (tgt := 16) hx hb d_Rd_hasPage_9 (by decide) (fun c_2 => ?_) (fun c_2 => ?_)
    · refine lv_iconst (v := 0) hx hb d_Rd_hasPage_16 (by decide) ?_
      have ef : M_Rd_hasPage rd p0 = 0 := by unfold M_Rd_hasPage; (try dsimp only); rw [if_neg c_1]; rw [if_pos c_2]
      exact ct_piret hx hb hr (rfl) hlocks d_Rd_hasPage_17 hQ hS (by rw [ef])
    · refine lv_iconst (v := 1) hx hb d_Rd_hasPage_12 (by decide) ?_
      refine lv_goto (tgt := 17) hx hb d_Rd_hasPage_13 (by decide) ?_
      have ef : M_Rd_hasPage rd p0 = 1 := by unfold M_Rd_hasPage; (try dsimp only); rw [if_neg c_1]; rw [if_neg c_2]
      exact ct_piret hx hb hr (rfl) hlocks d_Rd_hasPage_17 hQ hS (by rw [ef])
set_option maxHeartbeats 4000000 in
set_option maxRecDepth 100000 in
theorem c_Rd_hasStrip {l : Launch} {D : va_G} {cB cI cJ : ClassId} (h0 h1 h2 h3 h4 h5 h6 h7 h8 h9 h10 h11 : Nat) (rd : Nat → Int32) (ro : RowS) (ty : Nat → Int32) (ct : Nat → Int32) (pl : Nat → Int32) (nu : Nat → Int64) (rs : RowS) (fs : Nat → Int32) (hro : RowOK ro) (hrs : StOK 8192 rs) (p0 : Int32) (p1 : Int32) : CtP classes BW l D (TY cB cI cJ) y_Rd_hasStrip b_Rd_hasStrip 3 (some .boolean) ({ frames := 1, cells := 0, slots := 0, locals := 23 } : Room) [.ref h0, .int p0, .int p1] [(h0, .inr (5, [.ref h1, .ref h3, .ref h7, .ref h9, .ref h11, .int (rd 0), .int (rd 1), .int (rd 2), .int (rd 3), .int (rd 4), .int (rd 5), .int (rd 6)])), (h1, .inr (0, [.ref h2, .int ro.2.2])), (h2, .inl (cB, ro.1, .inl ro.2.1)), (h3, .inr (4, [.ref h1, .ref h4, .ref h5, .ref h6])), (h4, .inl (cI, 41, .inl ty)), (h5, .inl (cI, 41, .inl ct)), (h6, .inl (cI, 41, .inl pl)), (h7, .inr (3, [.ref h8])), (h8, .inl (cJ, 520, .inr (.inl nu))), (h9, .inr (1, [.int 8192, .ref h10, .int rs.2.2])), (h10, .inl (cI, rs.1, .inl rs.2.1)), (h11, .inl (cI, 40, .inl fs))] (some (.int (M_Rd_hasStrip rd nu p0 p1))) := by
  refine CtP.intro (by decide +kernel) (Nat.le_of_ble_eq_true rfl) ?_
  intro p e s m below meth c hx hb hr hml hlocks hnm hown hK hS hP hD ls hl Q hQ
  have hown : s.vm.findClass "PictureFile$Reader" = some m.cls := hown
  have hH : Hold classes BW D (TY cB cI cJ) p s m c b_Rd_hasStrip 3 "PictureFile$Reader" := ⟨bw_ok, hx, hb, hml, hown, hK⟩
  have hw : ∀ {w : Cond}, w ∈ BW → w.before ([.ref h0, .int p0, .int p1] : List Value).toArray s = true := fun h => Wd.at bw_ok hK.2 h
  have hl : lv_has ls 3 [(0, .ref h0), (1, .int p0), (2, .int p1)] := hl
  have bo0ro := RowOK.le hro
  have bo0rs := StOK.le hrs
  refine lv_aload_n hx hb d_Rd_hasStrip_0 rfl (lv_at hl 0 rfl) ?_
  refine lv_iload_n hx hb d_Rd_hasStrip_1 rfl (lv_at hl 1 rfl) ?_
  refine ct_finP (ct_runV (n := 1) (C := R_Rd) (b := h0) (As := [.int p0]) (rest := []) hH (c_Rd_hasPage h0 h1 h2 h3 h4 h5 h6 h7 h8 h9 h10 h11 rd ro ty ct pl nu rs fs hro hrs p0 _) ⟨cal_Rd_hasPage, ⟨Nat.le_of_ble_eq_true rfl, Nat.le_of_ble_eq_true rfl⟩, (Nat.le_of_ble_eq_true rfl), (Nat.le_of_ble_eq_true rfl)⟩ kw_165 kw_166 kw_167 kw_168 kw_169 (va_recv hK.1 hP (ci := 5) (q0 := 0) rfl rfl) (hP.sub (ws' := [(h0, .inr (5, [.ref h1, .ref h3, .ref h7, .ref h9, .ref h11, .int (rd 0), .int (rd 1), .int (rd 2), .int (rd 3), .int (rd 4), .int (rd 5), .int (rd 6)])), (h1, .inr (0, [.ref h2, .int ro.2.2])), (h2, .inl (cB, ro.1, .inl ro.2.1)), (h3, .inr (4, [.ref h1, .ref h4, .ref h5, .ref h6])), (h4, .inl (cI, 41, .inl ty)), (h5, .inl (cI, 41, .inl ct)), (h6, .inl (cI, 41, .inl pl)), (h7, .inr (3, [.ref h8])), (h8, .inl (cJ, 520, .inr (.inl nu))), (h9, .inr (1, [.int 8192, .ref h10, .int rs.2.2])), (h10, .inl (cI, rs.1, .inl rs.2.1)), (h11, .inl (cI, 40, .inl fs))]) [0, 1, 2, 3, 4, 5, 6, 7, 8, 9, 10, 11] rfl) (hD.sub (ws' := [(h0, .inr (5, [.ref h1, .ref h3, .ref h7, .ref h9, .ref h11, .int (rd 0), .int (rd 1), .int (rd 2), .int (rd 3), .int (rd 4), .int (rd 5), .int (rd 6)])), (h1, .inr (0, [.ref h2, .int ro.2.2])), (h2, .inl (cB, ro.1, .inl ro.2.1)), (h3, .inr (4, [.ref h1, .ref h4, .ref h5, .ref h6])), (h4, .inl (cI, 41, .inl ty)), (h5, .inl (cI, 41, .inl ct)), (h6, .inl (cI, 41, .inl pl)), (h7, .inr (3, [.ref h8])), (h8, .inl (cJ, 520, .inr (.inl nu))), (h9, .inr (1, [.int 8192, .ref h10, .int rs.2.2])), (h10, .inl (cI, rs.1, .inl rs.2.1)), (h11, .inl (cI, 40, .inl fs))]) [0, 1, 2, 3, 4, 5, 6, 7, 8, 9, 10, 11] rfl rfl) rfl hl.1 (Nat.le_of_ble_eq_true rfl) d_Rd_hasStrip_2) hP hS (fun H hP hS => ?_)
  refine W.eq (g2 := F0 m 5 ls [.int (M_Rd_hasPage rd p0)]) rfl ?_
  refine lv_if_eq (tgt := 32) hx hb d_Rd_hasStrip_5 (by decide) (fun c_1 => ?_) (fun c_1 => ?_)
  · refine lv_iconst (v := 0) hx hb d_Rd_hasStrip_32 (by decide) ?_
    have ef : M_Rd_hasStrip rd nu p0 p1 = 0 := by unfold M_Rd_hasStrip; (try dsimp only); rw [if_pos c_1]
    exact ct_piret hx hb hr (rfl) hlocks d_Rd_hasStrip_33 hQ hS (by rw [ef])
  · refine lv_iload_n hx hb d_Rd_hasStrip_8 rfl (lv_at hl 2 rfl) ?_
    refine lv_if_lt (tgt := 32) hx hb d_Rd_hasStrip_9 (by decide) (fun c_2 => ?_) (fun c_2 => ?_)
    · refine lv_iconst (v := 0) hx hb d_Rd_hasStrip_32 (by decide) ?_
      have ef : M_Rd_hasStrip rd nu p0 p1 = 0 := by unfold M_Rd_hasStrip; (try dsimp only); rw [if_neg c_1]; rw [if_pos c_2]
      exact ct_piret hx hb hr (rfl) hlocks d_Rd_hasStrip_33 hQ hS (by rw [ef])
    · refine lv_iload_n hx hb d_Rd_hasStrip_12 rfl (lv_at hl 2 rfl) ?_
      refine lv_i2l hx hb d_Rd_hasStrip_13 rfl ?_
      refine lv_aload_n hx hb d_Rd_hasStrip_14 rfl (lv_at hl 0 rfl) ?_
      refine va_get (D := D) (ci := 5) (C := R_Rd) (T := F_Rd) (N := 12) hx hb (kl_Rd hK.2) (fun _ h => h) hown hK.1 hP 0 rfl rfl 2 (by decide) (hw kw_170) (fun _ h9 => h9) rfl d_Rd_hasStrip_15 ?_
      refine lv_iload_n hx hb d_Rd_hasStrip_18 rfl (lv_at hl 1 rfl) ?_
      refine lv_bipush (v := 6) hx hb d_Rd_hasStrip_19 (by decide) ?_
      refine ct_finP (ct_runVN (host := "PictureFile") (n := 2) (C := R_Pn) (b := h7) (As := [.int p0, .int 6]) (rest := [.long p1.toInt64]) hH (c_Pn_get h7 h8 nu p0 6 _) ⟨cal_Pn_get, ⟨Nat.le_of_ble_eq_true rfl, Nat.le_of_ble_eq_true rfl⟩, (Nat.le_of_ble_eq_true rfl), (Nat.le_of_ble_eq_true rfl)⟩ kw_171 kw_119 kw_120 kw_121 kw_122 (va_recv hK.1 hP (ci := 3) (q0 := 7) rfl rfl) (hP.sub (ws' := [(h7, .inr (3, [.ref h8])), (h8, .inl (cJ, 520, .inr (.inl nu)))]) [7, 8] rfl) (hD.sub (ws' := [(h7, .inr (3, [.ref h8])), (h8, .inl (cJ, 520, .inr (.inl nu)))]) [7, 8] rfl rfl) rfl hl.1 (Nat.le_of_ble_eq_true rfl) d_Rd_hasStrip_21) hP hS (fun H hP hS => ?_)
      refine W.eq (g2 := F0 m 24 ls [.long (M_Pn_get nu p0 6), .long p1.toInt64]) rfl ?_
      refine W.lcmp hx hb d_Rd_hasStrip_24 ?_
      refine lv_if_ge (tgt := 32) hx hb d_Rd_hasStrip_25 (by decide) (fun c_3 => ?_) (fun c_3 => ?_)
      · refine lv_iconst (v := 0) hx hb d_Rd_hasStrip_32 (by decide) ?_
        have ef : M_Rd_hasStrip rd nu p0 p1 = 0 := by unfold M_Rd_hasStrip; (try dsimp only); rw [if_neg c_1]; rw [if_neg c_2]; rw [if_pos c_3]
        exact ct_piret hx hb hr (rfl) hlocks d_Rd_hasStrip_33 hQ hS (by rw [ef])
      · refine lv_iconst (v := 1) hx hb d_Rd_hasStrip_28 (by decide) ?_
        refine lv_goto (tgt := 33) hx hb d_Rd_hasStrip_29 (by decide) ?_
        have ef : M_Rd_hasStrip rd nu p0 p1 = 1 := by unfold M_Rd_hasStrip; (try dsimp only); rw [if_neg c_1]; rw [if_neg c_2]; rw [if_neg c_3]
        exact ct_piret hx hb hr (rfl) hlocks d_Rd_hasStrip_33 hQ hS (by rw [ef])
set_option maxHeartbeats 4000000 in
set_option maxRecDepth 100000 in
theorem c_Rd_ofStrip {l : Launch} {D : va_G} {cB cI cJ : ClassId} (h0 h1 h2 h3 h4 h5 h6 h7 h8 h9 h10 h11 : Nat) (rd : Nat → Int32) (ro : RowS) (ty : Nat → Int32) (ct : Nat → Int32) (pl : Nat → Int32) (nu : Nat → Int64) (rs : RowS) (fs : Nat → Int32) (hro : RowOK ro) (hrs : StOK 8192 rs) (p0 : Int32) (p1 : Int32) (p2 : Int32) : CtP classes BW l D (TY cB cI cJ) y_Rd_ofStrip b_Rd_ofStrip 4 (some .int) ({ frames := 1, cells := 0, slots := 0, locals := 23 } : Room) [.ref h0, .int p0, .int p1, .int p2] [(h0, .inr (5, [.ref h1, .ref h3, .ref h7, .ref h9, .ref h11, .int (rd 0), .int (rd 1), .int (rd 2), .int (rd 3), .int (rd 4), .int (rd 5), .int (rd 6)])), (h1, .inr (0, [.ref h2, .int ro.2.2])), (h2, .inl (cB, ro.1, .inl ro.2.1)), (h3, .inr (4, [.ref h1, .ref h4, .ref h5, .ref h6])), (h4, .inl (cI, 41, .inl ty)), (h5, .inl (cI, 41, .inl ct)), (h6, .inl (cI, 41, .inl pl)), (h7, .inr (3, [.ref h8])), (h8, .inl (cJ, 520, .inr (.inl nu))), (h9, .inr (1, [.int 8192, .ref h10, .int rs.2.2])), (h10, .inl (cI, rs.1, .inl rs.2.1)), (h11, .inl (cI, 40, .inl fs))] (some (.int (M_Rd_ofStrip rs fs p0 p1 p2))) := by
  refine CtP.intro (by decide +kernel) (Nat.le_of_ble_eq_true rfl) ?_
  intro p e s m below meth c hx hb hr hml hlocks hnm hown hK hS hP hD ls hl Q hQ
  have hown : s.vm.findClass "PictureFile$Reader" = some m.cls := hown
  have hH : Hold classes BW D (TY cB cI cJ) p s m c b_Rd_ofStrip 4 "PictureFile$Reader" := ⟨bw_ok, hx, hb, hml, hown, hK⟩
  have hw : ∀ {w : Cond}, w ∈ BW → w.before ([.ref h0, .int p0, .int p1, .int p2] : List Value).toArray s = true := fun h => Wd.at bw_ok hK.2 h
  have hl : lv_has ls 4 [(0, .ref h0), (1, .int p0), (2, .int p1), (3, .int p2)] := hl
  have bo0ro := RowOK.le hro
  have bo0rs := StOK.le hrs
  refine lv_iload_n hx hb d_Rd_ofStrip_0 rfl (lv_at hl 1 rfl) ?_
  refine lv_if_lt (tgt := 32) hx hb d_Rd_ofStrip_1 (by decide) (fun c_1 => ?_) (fun c_1 => ?_)
  · refine lv_iconst (v := 0) hx hb d_Rd_ofStrip_32 (by decide) ?_
    have ef : M_Rd_ofStrip rs fs p0 p1 p2 = 0 := by unfold M_Rd_ofStrip; (try dsimp only); rw [if_pos c_1]
    exact ct_piret hx hb hr rfl hlocks d_Rd_ofStrip_33 hQ hS (by rw [ef])
  · refine lv_iload_n hx hb d_Rd_ofStrip_4 rfl (lv_at hl 1 rfl) ?_
    refine lv_aload_n hx hb d_Rd_ofStrip_5 rfl (lv_at hl 0 rfl) ?_
    refine va_get (D := D) (ci := 5) (C := R_Rd) (T := F_Rd) (N := 12) hx hb (kl_Rd hK.2) (fun _ h => h) hown hK.1 hP 0 rfl rfl 4 (by decide) (hw kw_172) (fun _ h9 => h9) rfl d_Rd_ofStrip_6 ?_
    refine va_alen (v := nI 40) hx hb hK.1 hP 11 1 rfl rfl rfl d_Rd_ofStrip_9 ?_
    refine lv_icmp_ge (tgt := 32) hx hb d_Rd_ofStrip_10 (by decide) (fun c_2 => ?_) (fun c_2 => ?_)
    · refine lv_iconst (v := 0) hx hb d_Rd_ofStrip_32 (by decide) ?_
      have ef : M_Rd_ofStrip rs fs p0 p1 p2 = 0 := by unfold M_Rd_ofStrip; (try dsimp only); rw [if_neg c_1]; rw [if_pos c_2]
      exact ct_piret hx hb hr rfl hlocks d_Rd_ofStrip_33 hQ hS (by rw [ef])
    · refine lv_aload_n hx hb d_Rd_ofStrip_13 rfl (lv_at hl 0 rfl) ?_
      refine va_get (D := D) (ci := 5) (C := R_Rd) (T := F_Rd) (N := 12) hx hb (kl_Rd hK.2) (fun _ h => h) hown hK.1 hP 0 rfl rfl 3 (by decide) (hw kw_173) (fun _ h9 => h9) rfl d_Rd_ofStrip_14 ?_
      refine lv_aload_n hx hb d_Rd_ofStrip_17 rfl (lv_at hl 0 rfl) ?_
      refine va_get (D := D) (ci := 5) (C := R_Rd) (T := F_Rd) (N := 12) hx hb (kl_Rd hK.2) (fun _ h => h) hown hK.1 hP 0 rfl rfl 4 (by decide) (hw kw_172) (fun _ h9 => h9) rfl d_Rd_ofStrip_18 ?_
      refine lv_iload_n hx hb d_Rd_ofStrip_21 rfl (lv_at hl 1 rfl) ?_
      refine va_iald hx hb hK.1 hP 11 1 rfl rfl (vp_int c_1 c_2 (by omega)) d_Rd_ofStrip_22 ?_
      refine lv_iload_n hx hb d_Rd_ofStrip_23 rfl (lv_at hl 2 rfl) ?_
      refine lv_iadd hx hb d_Rd_ofStrip_24 ?_
      refine lv_iload_n hx hb d_Rd_ofStrip_25 rfl (lv_at hl 3 rfl) ?_
      refine ct_finP (ct_runVN (host := "PictureFile") (n := 2) (C := R_St) (b := h9) (As := [.int ((fs p0.toNatClampNeg) + p1), .int p2]) (rest := []) hH (c_St_get h9 h10 8192 rs hrs ((fs p0.toNatClampNeg) + p1) p2 _) ⟨cal_St_get, ⟨Nat.le_of_ble_eq_true rfl, Nat.le_of_ble_eq_true rfl⟩, (Nat.le_of_ble_eq_true rfl), (Nat.le_of_ble_eq_true rfl)⟩ kw_174 kw_94 kw_86 kw_95 kw_96 (va_recv hK.1 hP (ci := 1) (q0 := 9) rfl rfl) (hP.sub (ws' := [(h9, .inr (1, [.int 8192, .ref h10, .int rs.2.2])), (h10, .inl (cI, rs.1, .inl rs.2.1))]) [9, 10] rfl) (hD.sub (ws' := [(h9, .inr (1, [.int 8192, .ref h10, .int rs.2.2])), (h10, .inl (cI, rs.1, .inl rs.2.1))]) [9, 10] rfl rfl) rfl hl.1 (Nat.le_of_ble_eq_true rfl) d_Rd_ofStrip_26) hP hS (fun H hP hS => ?_)
      refine W.eq (g2 := F0 m 29 ls [.int (M_St_get rs ((fs p0.toNatClampNeg) + p1) p2)]) rfl ?_
      refine lv_goto (tgt := 33) hx hb d_Rd_ofStrip_29 (by decide) ?_
      have ef : M_Rd_ofStrip rs fs p0 p1 p2 = (M_St_get rs ((fs p0.toNatClampNeg) + p1) p2) := by unfold M_Rd_ofStrip; (try dsimp only); rw [if_neg c_1]; rw [if_neg c_2]
      exact ct_piret hx hb hr rfl hlocks d_Rd_ofStrip_33 hQ hS (by rw [ef])
set_option maxHeartbeats 4000000 in
set_option maxRecDepth 100000 in
theorem c_Rd_faultNumber {l : Launch} {D : va_G} {cB cI cJ : ClassId} (h0 h1 h2 h3 h4 h5 h6 h7 h8 h9 h10 h11 : Nat) (rd : Nat → Int32) (ro : RowS) (ty : Nat → Int32) (ct : Nat → Int32) (pl : Nat → Int32) (nu : Nat → Int64) (rs : RowS) (fs : Nat → Int32) (hro : RowOK ro) (hrs : StOK 8192 rs) (p0 : Int32) : CtP classes BW l D (TY cB cI cJ) y_Rd_faultNumber b_Rd_faultNumber 2 (some .int) ({ frames := 0, cells := 0, slots := 0, locals := 0 } : Room) [.ref h0, .int p0] [(h0, .inr (5, [.ref h1, .ref h3, .ref h7, .ref h9, .ref h11, .int (rd 0), .int (rd 1), .int (rd 2), .int (rd 3), .int (rd 4), .int (rd 5), .int (rd 6)])), (h1, .inr (0, [.ref h2, .int ro.2.2])), (h2, .inl (cB, ro.1, .inl ro.2.1)), (h3, .inr (4, [.ref h1, .ref h4, .ref h5, .ref h6])), (h4, .inl (cI, 41, .inl ty)), (h5, .inl (cI, 41, .inl ct)), (h6, .inl (cI, 41, .inl pl)), (h7, .inr (3, [.ref h8])), (h8, .inl (cJ, 520, .inr (.inl nu))), (h9, .inr (1, [.int 8192, .ref h10, .int rs.2.2])), (h10, .inl (cI, rs.1, .inl rs.2.1)), (h11, .inl (cI, 40, .inl fs))] (some (.int (M_Rd_faultNumber rd p0))) := by
  refine CtP.intro (by decide +kernel) (Nat.le_of_ble_eq_true rfl) ?_
  intro p e s m below meth c hx hb hr hml hlocks hnm hown hK hS hP hD ls hl Q hQ
  have hown : s.vm.findClass "PictureFile$Reader" = some m.cls := hown
  have hH : Hold classes BW D (TY cB cI cJ) p s m c b_Rd_faultNumber 2 "PictureFile$Reader" := ⟨bw_ok, hx, hb, hml, hown, hK⟩
  have hw : ∀ {w : Cond}, w ∈ BW → w.before ([.ref h0, .int p0] : List Value).toArray s = true := fun h => Wd.at bw_ok hK.2 h
  have hl : lv_has ls 2 [(0, .ref h0), (1, .int p0)] := hl
  have bo0ro := RowOK.le hro
  have bo0rs := StOK.le hrs
  refine lv_aload_n hx hb d_Rd_faultNumber_0 rfl (lv_at hl 0 rfl) ?_
  refine va_get (D := D) (ci := 5) (C := R_Rd) (T := F_Rd) (N := 12) hx hb (kl_Rd hK.2) (fun _ h => h) hown hK.1 hP 0 rfl rfl 8 (by decide) (hw kw_175) (fun _ h9 => h9) rfl d_Rd_faultNumber_1 ?_
  refine lv_if_ne (tgt := 9) hx hb d_Rd_faultNumber_4 (by decide) (fun c_1 => ?_) (fun c_1 => ?_)
  · refine lv_iload_n hx hb d_Rd_faultNumber_9 rfl (lv_at hl 1 rfl) ?_
    by_cases c_2 : p0 = 0
    · refine lv_tableIn (tgt := 36) (off := 26) hx hb d_Rd_faultNumber_10 (by rw [c_2]; decide) (by rw [c_2]; decide) (by rw [c_2]; rfl) (by decide) ?_
      refine lv_aload_n hx hb d_Rd_faultNumber_36 rfl (lv_at hl 0 rfl) ?_
      refine va_get (D := D) (ci := 5) (C := R_Rd) (T := F_Rd) (N := 12) hx hb (kl_Rd hK.2) (fun _ h => h) hown hK.1 hP 0 rfl rfl 9 (by decide) (hw kw_176) (fun _ h9 => h9) rfl d_Rd_faultNumber_37 ?_
      have ef : M_Rd_faultNumber rd p0 = (rd 4) := by unfold M_Rd_faultNumber; (try dsimp only); rw [if_neg c_1]; rw [if_pos c_2]
      exact ct_piret hx hb hr rfl hlocks d_Rd_faultNumber_40 hQ hS (by rw [ef])
    by_cases c_3 : p0 = 1
    · refine lv_tableIn (tgt := 41) (off := 31) hx hb d_Rd_faultNumber_10 (by rw [c_3]; decide) (by rw [c_3]; decide) (by rw [c_3]; rfl) (by decide) ?_
      refine lv_aload_n hx hb d_Rd_faultNumber_41 rfl (lv_at hl 0 rfl) ?_
      refine va_get (D := D) (ci := 5) (C := R_Rd) (T := F_Rd) (N := 12) hx hb (kl_Rd hK.2) (fun _ h => h) hown hK.1 hP 0 rfl rfl 10 (by decide) (hw kw_177) (fun _ h9 => h9) rfl d_Rd_faultNumber_42 ?_
      have ef : M_Rd_faultNumber rd p0 = (rd 5) := by unfold M_Rd_faultNumber; (try dsimp only); rw [if_neg c_1]; rw [if_neg c_2]; rw [if_pos c_3]
      exact ct_piret hx hb hr rfl hlocks d_Rd_faultNumber_45 hQ hS (by rw [ef])
    by_cases c_4 : p0 = 2
    · refine lv_tableIn (tgt := 46) (off := 36) hx hb d_Rd_faultNumber_10 (by rw [c_4]; decide) (by rw [c_4]; decide) (by rw [c_4]; rfl) (by decide) ?_
      refine lv_aload_n hx hb d_Rd_faultNumber_46 rfl (lv_at hl 0 rfl) ?_
      refine va_get (D := D) (ci := 5) (C := R_Rd) (T := F_Rd) (N := 12) hx hb (kl_Rd hK.2) (fun _ h => h) hown hK.1 hP 0 rfl rfl 11 (by decide) (hw kw_178) (fun _ h9 => h9) rfl d_Rd_faultNumber_47 ?_
      have ef : M_Rd_faultNumber rd p0 = (rd 6) := by unfold M_Rd_faultNumber; (try dsimp only); rw [if_neg c_1]; rw [if_neg c_2]; rw [if_neg c_3]; rw [if_pos c_4]
      exact ct_piret hx hb hr rfl hlocks d_Rd_faultNumber_50 hQ hS (by rw [ef])
    have nc_2 : ¬ p0.toInt = 0 := fun h => c_2 (Int32.toInt_inj.mp h)
    have nc_3 : ¬ p0.toInt = 1 := fun h => c_3 (Int32.toInt_inj.mp h)
    have nc_4 : ¬ p0.toInt = 2 := fun h => c_4 (Int32.toInt_inj.mp h)
    refine lv_tableD (tgt := 51) hx hb d_Rd_faultNumber_10 (by rcases (show p0.toInt < 0 ∨ 2 < p0.toInt by omega) with h | h; exact Or.inl h; exact Or.inr (Or.inl h)) (by decide) ?_
    refine lv_iconst (v := (-1)) hx hb d_Rd_faultNumber_51 (by decide) ?_
    have ef : M_Rd_faultNumber rd p0 = (-1) := by unfold M_Rd_faultNumber; (try dsimp only); rw [if_neg c_1]; rw [if_neg c_2]; rw [if_neg c_3]; rw [if_neg c_4]
    exact ct_piret hx hb hr rfl hlocks d_Rd_faultNumber_52 hQ hS (by rw [ef])
  · refine lv_iconst (v := (-1)) hx hb d_Rd_faultNumber_7 (by decide) ?_
    have ef : M_Rd_faultNumber rd p0 = (-1) := by unfold M_Rd_faultNumber; (try dsimp only); rw [if_pos c_1]
    exact ct_piret hx hb hr rfl hlocks d_Rd_faultNumber_8 hQ hS (by rw [ef])
