set_option maxHeartbeats 4000000 in
set_option maxRecDepth 100000 in
theorem c_Pn_wrongTag {l : Launch} {D : va_G} {cB cI cJ : ClassId} (h0 h1 : Nat) (nu : Nat → Int64) (p0 : Int32) : CtP classes BW l D (TY cB cI cJ) y_Pn_wrongTag b_Pn_wrongTag 4 (some .int) ({ frames := 1, cells := 0, slots := 0, locals := 25 } : Room) [.ref h0, .int p0] [(h0, .inr (3, [.ref h1])), (h1, .inl (cJ, 520, .inr (.inl nu)))] (some (.int (M_Pn_wrongTag nu p0))) := by
  refine CtP.intro (by decide +kernel) (Nat.le_of_ble_eq_true rfl) ?_
  intro p e s m below meth c hx hb hr hml hlocks hnm hown hK hS hP hD ls hl Q hQ
  have hown : s.vm.findClass "PictureFile$PageNumbers" = some m.cls := hown
  have hH : Hold classes BW D (TY cB cI cJ) p s m c b_Pn_wrongTag 4 "PictureFile$PageNumbers" := ⟨bw_ok, hx, hb, hml, hown, hK⟩
  have hw : ∀ {w : Cond}, w ∈ BW → w.before ([.ref h0, .int p0] : List Value).toArray s = true := fun h => Wd.at bw_ok hK.2 h
  have hl : lv_has ls 4 [(0, .ref h0), (1, .int p0)] := hl
  refine lv_aload_n hx hb d_Pn_wrongTag_0 rfl (lv_at hl 0 rfl) ?_
  refine lv_iload_n hx hb d_Pn_wrongTag_1 rfl (lv_at hl 1 rfl) ?_
  refine lv_iconst (v := 0) hx hb d_Pn_wrongTag_2 (by decide) ?_
  refine ct_finP (ct_runV (n := 2) (C := R_Pn) (b := h0) (As := [.int p0, .int 0]) (rest := []) hH (c_Pn_get h0 h1 nu p0 0 _) ⟨cal_Pn_get, ⟨Nat.le_of_ble_eq_true rfl, Nat.le_of_ble_eq_true rfl⟩, (Nat.le_of_ble_eq_true rfl), (Nat.le_of_ble_eq_true rfl)⟩ kw_118 kw_119 kw_120 kw_121 kw_122 (va_recv hK.1 hP (ci := 3) (q0 := 0) rfl rfl) (hP.sub (ws' := [(h0, .inr (3, [.ref h1])), (h1, .inl (cJ, 520, .inr (.inl nu)))]) [0, 1] rfl) (hD.sub (ws' := [(h0, .inr (3, [.ref h1])), (h1, .inl (cJ, 520, .inr (.inl nu)))]) [0, 1] rfl rfl) rfl hl.1 (Nat.le_of_ble_eq_true rfl) d_Pn_wrongTag_3) hP hS (fun H hP hS => ?_)
  refine W.eq (g2 := F0 m 6 ls [.long (M_Pn_get nu p0 0)]) rfl ?_
  refine lv_lconst (v := 1) hx hb d_Pn_wrongTag_6 (by decide) ?_
  refine lv_ldc2 (v := 20000) hx hb hown (hw kw_123) d_Pn_wrongTag_7 ?_
  refine ct_finP (ct_runSN (host := "PictureFile") (n := 3) (As := [.long (M_Pn_get nu p0 0), .long 1, .long 20000]) (rest := []) hH (c_PF_isWithin (M_Pn_get nu p0 0) 1 20000 _) ⟨cal_PF_isWithin, ⟨Nat.le_of_ble_eq_true rfl, Nat.le_of_ble_eq_true rfl⟩, (Nat.le_of_ble_eq_true rfl), (Nat.le_of_ble_eq_true rfl)⟩ kw_124 kw_2 kw_3 kw_4 (hP.sub (ws' := []) [] rfl) (hD.sub (ws' := []) [] rfl rfl) rfl hl.1 (Nat.le_of_ble_eq_true rfl) d_Pn_wrongTag_10) hP hS (fun H hP hS => ?_)
  refine W.eq (g2 := F0 m 13 ls [.int (M_PF_isWithin (M_Pn_get nu p0 0) 1 20000)]) rfl ?_
  refine lv_if_ne (tgt := 20) hx hb d_Pn_wrongTag_13 (by decide) (fun c_1 => ?_) (fun c_1 => ?_)
  · refine lv_aload_n hx hb d_Pn_wrongTag_20 rfl (lv_at hl 0 rfl) ?_
    refine lv_iload_n hx hb d_Pn_wrongTag_21 rfl (lv_at hl 1 rfl) ?_
    refine lv_iconst (v := 1) hx hb d_Pn_wrongTag_22 (by decide) ?_
    refine ct_finP (ct_runV (n := 2) (C := R_Pn) (b := h0) (As := [.int p0, .int 1]) (rest := []) hH (c_Pn_get h0 h1 nu p0 1 _) ⟨cal_Pn_get, ⟨Nat.le_of_ble_eq_true rfl, Nat.le_of_ble_eq_true rfl⟩, (Nat.le_of_ble_eq_true rfl), (Nat.le_of_ble_eq_true rfl)⟩ kw_118 kw_119 kw_120 kw_121 kw_122 (va_recv hK.1 hP (ci := 3) (q0 := 0) rfl rfl) (hP.sub (ws' := [(h0, .inr (3, [.ref h1])), (h1, .inl (cJ, 520, .inr (.inl nu)))]) [0, 1] rfl) (hD.sub (ws' := [(h0, .inr (3, [.ref h1])), (h1, .inl (cJ, 520, .inr (.inl nu)))]) [0, 1] rfl rfl) rfl hl.1 (Nat.le_of_ble_eq_true rfl) d_Pn_wrongTag_23) hP hS (fun H hP hS => ?_)
    refine W.eq (g2 := F0 m 26 ls [.long (M_Pn_get nu p0 1)]) rfl ?_
    refine lv_lconst (v := 1) hx hb d_Pn_wrongTag_26 (by decide) ?_
    refine lv_ldc2 (v := 20000) hx hb hown (hw kw_123) d_Pn_wrongTag_27 ?_
    refine ct_finP (ct_runSN (host := "PictureFile") (n := 3) (As := [.long (M_Pn_get nu p0 1), .long 1, .long 20000]) (rest := []) hH (c_PF_isWithin (M_Pn_get nu p0 1) 1 20000 _) ⟨cal_PF_isWithin, ⟨Nat.le_of_ble_eq_true rfl, Nat.le_of_ble_eq_true rfl⟩, (Nat.le_of_ble_eq_true rfl), (Nat.le_of_ble_eq_true rfl)⟩ kw_124 kw_2 kw_3 kw_4 (hP.sub (ws' := []) [] rfl) (hD.sub (ws' := []) [] rfl rfl) rfl hl.1 (Nat.le_of_ble_eq_true rfl) d_Pn_wrongTag_30) hP hS (fun H hP hS => ?_)
    refine W.eq (g2 := F0 m 33 ls [.int (M_PF_isWithin (M_Pn_get nu p0 1) 1 20000)]) rfl ?_
    refine lv_if_ne (tgt := 40) hx hb d_Pn_wrongTag_33 (by decide) (fun c_2 => ?_) (fun c_2 => ?_)
    · refine lv_aload_n hx hb d_Pn_wrongTag_40 rfl (lv_at hl 0 rfl) ?_
      refine lv_iload_n hx hb d_Pn_wrongTag_41 rfl (lv_at hl 1 rfl) ?_
      refine lv_iconst (v := 2) hx hb d_Pn_wrongTag_42 (by decide) ?_
      refine ct_finP (ct_runV (n := 2) (C := R_Pn) (b := h0) (As := [.int p0, .int 2]) (rest := []) hH (c_Pn_get h0 h1 nu p0 2 _) ⟨cal_Pn_get, ⟨Nat.le_of_ble_eq_true rfl, Nat.le_of_ble_eq_true rfl⟩, (Nat.le_of_ble_eq_true rfl), (Nat.le_of_ble_eq_true rfl)⟩ kw_118 kw_119 kw_120 kw_121 kw_122 (va_recv hK.1 hP (ci := 3) (q0 := 0) rfl rfl) (hP.sub (ws' := [(h0, .inr (3, [.ref h1])), (h1, .inl (cJ, 520, .inr (.inl nu)))]) [0, 1] rfl) (hD.sub (ws' := [(h0, .inr (3, [.ref h1])), (h1, .inl (cJ, 520, .inr (.inl nu)))]) [0, 1] rfl rfl) rfl hl.1 (Nat.le_of_ble_eq_true rfl) d_Pn_wrongTag_43) hP hS (fun H hP hS => ?_)
      refine W.eq (g2 := F0 m 46 ls [.long (M_Pn_get nu p0 2)]) rfl ?_
      refine lv_lstore_n (lv' := [(2, .long (M_Pn_get nu p0 2)), (0, .ref h0), (1, .int p0)]) hx hb d_Pn_wrongTag_46 rfl hl (by decide) rfl (fun ls hl => ?_)
      refine lv_lload_n hx hb d_Pn_wrongTag_47 rfl (lv_at hl 0 rfl) ?_
      refine lv_lconst (v := 1) hx hb d_Pn_wrongTag_48 (by decide) ?_
      refine W.lcmp hx hb d_Pn_wrongTag_49 ?_
      refine lv_if_eq (tgt := 65) hx hb d_Pn_wrongTag_50 (by decide) (fun c_3 => ?_) (fun c_3 => ?_)
      · refine lv_aload_n hx hb d_Pn_wrongTag_65 rfl (lv_at hl 1 rfl) ?_
        refine lv_iload_n hx hb d_Pn_wrongTag_66 rfl (lv_at hl 2 rfl) ?_
        refine lv_iconst (v := 3) hx hb d_Pn_wrongTag_67 (by decide) ?_
        refine ct_finP (ct_runV (n := 2) (C := R_Pn) (b := h0) (As := [.int p0, .int 3]) (rest := []) hH (c_Pn_get h0 h1 nu p0 3 _) ⟨cal_Pn_get, ⟨Nat.le_of_ble_eq_true rfl, Nat.le_of_ble_eq_true rfl⟩, (Nat.le_of_ble_eq_true rfl), (Nat.le_of_ble_eq_true rfl)⟩ kw_118 kw_119 kw_120 kw_121 kw_122 (va_recv hK.1 hP (ci := 3) (q0 := 0) rfl rfl) (hP.sub (ws' := [(h0, .inr (3, [.ref h1])), (h1, .inl (cJ, 520, .inr (.inl nu)))]) [0, 1] rfl) (hD.sub (ws' := [(h0, .inr (3, [.ref h1])), (h1, .inl (cJ, 520, .inr (.inl nu)))]) [0, 1] rfl rfl) rfl hl.1 (Nat.le_of_ble_eq_true rfl) d_Pn_wrongTag_68) hP hS (fun H hP hS => ?_)
        refine W.eq (g2 := F0 m 71 ls [.long (M_Pn_get nu p0 3)]) rfl ?_
        refine lv_lconst (v := 0) hx hb d_Pn_wrongTag_71 (by decide) ?_
        refine lv_lconst (v := 1) hx hb d_Pn_wrongTag_72 (by decide) ?_
        refine ct_finP (ct_runSN (host := "PictureFile") (n := 3) (As := [.long (M_Pn_get nu p0 3), .long 0, .long 1]) (rest := []) hH (c_PF_isWithin (M_Pn_get nu p0 3) 0 1 _) ⟨cal_PF_isWithin, ⟨Nat.le_of_ble_eq_true rfl, Nat.le_of_ble_eq_true rfl⟩, (Nat.le_of_ble_eq_true rfl), (Nat.le_of_ble_eq_true rfl)⟩ kw_124 kw_2 kw_3 kw_4 (hP.sub (ws' := []) [] rfl) (hD.sub (ws' := []) [] rfl rfl) rfl hl.1 (Nat.le_of_ble_eq_true rfl) d_Pn_wrongTag_73) hP hS (fun H hP hS => ?_)
        refine W.eq (g2 := F0 m 76 ls [.int (M_PF_isWithin (M_Pn_get nu p0 3) 0 1)]) rfl ?_
        refine lv_if_ne (tgt := 83) hx hb d_Pn_wrongTag_76 (by decide) (fun c_4 => ?_) (fun c_4 => ?_)
        · refine lv_aload_n hx hb d_Pn_wrongTag_83 rfl (lv_at hl 1 rfl) ?_
          refine lv_iload_n hx hb d_Pn_wrongTag_84 rfl (lv_at hl 2 rfl) ?_
          refine lv_iconst (v := 4) hx hb d_Pn_wrongTag_85 (by decide) ?_
          refine ct_finP (ct_runV (n := 2) (C := R_Pn) (b := h0) (As := [.int p0, .int 4]) (rest := []) hH (c_Pn_get h0 h1 nu p0 4 _) ⟨cal_Pn_get, ⟨Nat.le_of_ble_eq_true rfl, Nat.le_of_ble_eq_true rfl⟩, (Nat.le_of_ble_eq_true rfl), (Nat.le_of_ble_eq_true rfl)⟩ kw_118 kw_119 kw_120 kw_121 kw_122 (va_recv hK.1 hP (ci := 3) (q0 := 0) rfl rfl) (hP.sub (ws' := [(h0, .inr (3, [.ref h1])), (h1, .inl (cJ, 520, .inr (.inl nu)))]) [0, 1] rfl) (hD.sub (ws' := [(h0, .inr (3, [.ref h1])), (h1, .inl (cJ, 520, .inr (.inl nu)))]) [0, 1] rfl rfl) rfl hl.1 (Nat.le_of_ble_eq_true rfl) d_Pn_wrongTag_86) hP hS (fun H hP hS => ?_)
          refine W.eq (g2 := F0 m 89 ls [.long (M_Pn_get nu p0 4)]) rfl ?_
          refine lv_lconst (v := 1) hx hb d_Pn_wrongTag_89 (by decide) ?_
          refine lv_ldc2 (v := 2) hx hb hown (hw kw_125) d_Pn_wrongTag_90 ?_
          refine ct_finP (ct_runSN (host := "PictureFile") (n := 3) (As := [.long (M_Pn_get nu p0 4), .long 1, .long 2]) (rest := []) hH (c_PF_isWithin (M_Pn_get nu p0 4) 1 2 _) ⟨cal_PF_isWithin, ⟨Nat.le_of_ble_eq_true rfl, Nat.le_of_ble_eq_true rfl⟩, (Nat.le_of_ble_eq_true rfl), (Nat.le_of_ble_eq_true rfl)⟩ kw_124 kw_2 kw_3 kw_4 (hP.sub (ws' := []) [] rfl) (hD.sub (ws' := []) [] rfl rfl) rfl hl.1 (Nat.le_of_ble_eq_true rfl) d_Pn_wrongTag_93) hP hS (fun H hP hS => ?_)
          refine W.eq (g2 := F0 m 96 ls [.int (M_PF_isWithin (M_Pn_get nu p0 4) 1 2)]) rfl ?_
          refine lv_if_ne (tgt := 103) hx hb d_Pn_wrongTag_96 (by decide) (fun c_5 => ?_) (fun c_5 => ?_)
          · refine lv_aload_n hx hb d_Pn_wrongTag_103 rfl (lv_at hl 1 rfl) ?_
            refine lv_iload_n hx hb d_Pn_wrongTag_104 rfl (lv_at hl 2 rfl) ?_
            refine lv_iconst (v := 5) hx hb d_Pn_wrongTag_105 (by decide) ?_
            refine ct_finP (ct_runV (n := 2) (C := R_Pn) (b := h0) (As := [.int p0, .int 5]) (rest := []) hH (c_Pn_get h0 h1 nu p0 5 _) ⟨cal_Pn_get, ⟨Nat.le_of_ble_eq_true rfl, Nat.le_of_ble_eq_true rfl⟩, (Nat.le_of_ble_eq_true rfl), (Nat.le_of_ble_eq_true rfl)⟩ kw_118 kw_119 kw_120 kw_121 kw_122 (va_recv hK.1 hP (ci := 3) (q0 := 0) rfl rfl) (hP.sub (ws' := [(h0, .inr (3, [.ref h1])), (h1, .inl (cJ, 520, .inr (.inl nu)))]) [0, 1] rfl) (hD.sub (ws' := [(h0, .inr (3, [.ref h1])), (h1, .inl (cJ, 520, .inr (.inl nu)))]) [0, 1] rfl rfl) rfl hl.1 (Nat.le_of_ble_eq_true rfl) d_Pn_wrongTag_106) hP hS (fun H hP hS => ?_)
            refine W.eq (g2 := F0 m 109 ls [.long (M_Pn_get nu p0 5)]) rfl ?_
            refine lv_lconst (v := 0) hx hb d_Pn_wrongTag_109 (by decide) ?_
            refine W.lcmp hx hb d_Pn_wrongTag_110 ?_
            refine lv_if_ne (tgt := 118) hx hb d_Pn_wrongTag_111 (by decide) (fun c_6 => ?_) (fun c_6 => ?_)
            · refine lv_aload_n hx hb d_Pn_wrongTag_118 rfl (lv_at hl 1 rfl) ?_
              refine lv_iload_n hx hb d_Pn_wrongTag_119 rfl (lv_at hl 2 rfl) ?_
              refine lv_bipush (v := 7) hx hb d_Pn_wrongTag_120 (by decide) ?_
              refine ct_finP (ct_runV (n := 2) (C := R_Pn) (b := h0) (As := [.int p0, .int 7]) (rest := []) hH (c_Pn_get h0 h1 nu p0 7 _) ⟨cal_Pn_get, ⟨Nat.le_of_ble_eq_true rfl, Nat.le_of_ble_eq_true rfl⟩, (Nat.le_of_ble_eq_true rfl), (Nat.le_of_ble_eq_true rfl)⟩ kw_118 kw_119 kw_120 kw_121 kw_122 (va_recv hK.1 hP (ci := 3) (q0 := 0) rfl rfl) (hP.sub (ws' := [(h0, .inr (3, [.ref h1])), (h1, .inl (cJ, 520, .inr (.inl nu)))]) [0, 1] rfl) (hD.sub (ws' := [(h0, .inr (3, [.ref h1])), (h1, .inl (cJ, 520, .inr (.inl nu)))]) [0, 1] rfl rfl) rfl hl.1 (Nat.le_of_ble_eq_true rfl) d_Pn_wrongTag_122) hP hS (fun H hP hS => ?_)
              refine W.eq (g2 := F0 m 125 ls [.long (M_Pn_get nu p0 7)]) rfl ?_
              refine lv_lconst (v := 1) hx hb d_Pn_wrongTag_125 (by decide) ?_
              refine lv_ldc2 (v := 3) hx hb hown (hw kw_126) d_Pn_wrongTag_126 ?_
              refine ct_finP (ct_runSN (host := "PictureFile") (n := 3) (As := [.long (M_Pn_get nu p0 7), .long 1, .long 3]) (rest := []) hH (c_PF_isWithin (M_Pn_get nu p0 7) 1 3 _) ⟨cal_PF_isWithin, ⟨Nat.le_of_ble_eq_true rfl, Nat.le_of_ble_eq_true rfl⟩, (Nat.le_of_ble_eq_true rfl), (Nat.le_of_ble_eq_true rfl)⟩ kw_124 kw_2 kw_3 kw_4 (hP.sub (ws' := []) [] rfl) (hD.sub (ws' := []) [] rfl rfl) rfl hl.1 (Nat.le_of_ble_eq_true rfl) d_Pn_wrongTag_129) hP hS (fun H hP hS => ?_)
              refine W.eq (g2 := F0 m 132 ls [.int (M_PF_isWithin (M_Pn_get nu p0 7) 1 3)]) rfl ?_
              refine lv_if_ne (tgt := 139) hx hb d_Pn_wrongTag_132 (by decide) (fun c_7 => ?_) (fun c_7 => ?_)
              · refine lv_aload_n hx hb d_Pn_wrongTag_139 rfl (lv_at hl 1 rfl) ?_
                refine lv_iload_n hx hb d_Pn_wrongTag_140 rfl (lv_at hl 2 rfl) ?_
                refine lv_bipush (v := 9) hx hb d_Pn_wrongTag_141 (by decide) ?_
                refine ct_finP (ct_runV (n := 2) (C := R_Pn) (b := h0) (As := [.int p0, .int 9]) (rest := []) hH (c_Pn_get h0 h1 nu p0 9 _) ⟨cal_Pn_get, ⟨Nat.le_of_ble_eq_true rfl, Nat.le_of_ble_eq_true rfl⟩, (Nat.le_of_ble_eq_true rfl), (Nat.le_of_ble_eq_true rfl)⟩ kw_118 kw_119 kw_120 kw_121 kw_122 (va_recv hK.1 hP (ci := 3) (q0 := 0) rfl rfl) (hP.sub (ws' := [(h0, .inr (3, [.ref h1])), (h1, .inl (cJ, 520, .inr (.inl nu)))]) [0, 1] rfl) (hD.sub (ws' := [(h0, .inr (3, [.ref h1])), (h1, .inl (cJ, 520, .inr (.inl nu)))]) [0, 1] rfl rfl) rfl hl.1 (Nat.le_of_ble_eq_true rfl) d_Pn_wrongTag_143) hP hS (fun H hP hS => ?_)
                refine W.eq (g2 := F0 m 146 ls [.long (M_Pn_get nu p0 9)]) rfl ?_
                refine lv_lconst (v := 0) hx hb d_Pn_wrongTag_146 (by decide) ?_
                refine W.lcmp hx hb d_Pn_wrongTag_147 ?_
                refine lv_if_ne (tgt := 155) hx hb d_Pn_wrongTag_148 (by decide) (fun c_8 => ?_) (fun c_8 => ?_)
                · refine lv_aload_n hx hb d_Pn_wrongTag_155 rfl (lv_at hl 1 rfl) ?_
                  refine lv_iload_n hx hb d_Pn_wrongTag_156 rfl (lv_at hl 2 rfl) ?_
                  refine lv_bipush (v := 11) hx hb d_Pn_wrongTag_157 (by decide) ?_
                  refine ct_finP (ct_runV (n := 2) (C := R_Pn) (b := h0) (As := [.int p0, .int 11]) (rest := []) hH (c_Pn_get h0 h1 nu p0 11 _) ⟨cal_Pn_get, ⟨Nat.le_of_ble_eq_true rfl, Nat.le_of_ble_eq_true rfl⟩, (Nat.le_of_ble_eq_true rfl), (Nat.le_of_ble_eq_true rfl)⟩ kw_118 kw_119 kw_120 kw_121 kw_122 (va_recv hK.1 hP (ci := 3) (q0 := 0) rfl rfl) (hP.sub (ws' := [(h0, .inr (3, [.ref h1])), (h1, .inl (cJ, 520, .inr (.inl nu)))]) [0, 1] rfl) (hD.sub (ws' := [(h0, .inr (3, [.ref h1])), (h1, .inl (cJ, 520, .inr (.inl nu)))]) [0, 1] rfl rfl) rfl hl.1 (Nat.le_of_ble_eq_true rfl) d_Pn_wrongTag_159) hP hS (fun H hP hS => ?_)
                  refine W.eq (g2 := F0 m 162 ls [.long (M_Pn_get nu p0 11)]) rfl ?_
                  refine lv_lconst (v := 0) hx hb d_Pn_wrongTag_162 (by decide) ?_
                  refine W.lcmp hx hb d_Pn_wrongTag_163 ?_
                  refine lv_if_ne (tgt := 173) hx hb d_Pn_wrongTag_164 (by decide) (fun c_9 => ?_) (fun c_9 => ?_)
                  · refine lv_iconst (v := 0) hx hb d_Pn_wrongTag_173 (by decide) ?_
                    have ef : M_Pn_wrongTag nu p0 = 0 := by unfold M_Pn_wrongTag; (try dsimp only); rw [if_neg c_1]; rw [if_neg c_2]; rw [if_pos c_3]; rw [if_neg c_4]; rw [if_neg c_5]; rw [if_neg c_6]; rw [if_neg c_7]; rw [if_neg c_8]; rw [if_neg c_9]
                    exact ct_piret hx hb hr rfl hlocks d_Pn_wrongTag_174 hQ hS (by rw [ef])
                  · refine lv_sipush (v := 283) hx hb d_Pn_wrongTag_167 (by decide) ?_
                    refine lv_goto (tgt := 174) hx hb d_Pn_wrongTag_170 (by decide) ?_
                    have ef : M_Pn_wrongTag nu p0 = 283 := by unfold M_Pn_wrongTag; (try dsimp only); rw [if_neg c_1]; rw [if_neg c_2]; rw [if_pos c_3]; rw [if_neg c_4]; rw [if_neg c_5]; rw [if_neg c_6]; rw [if_neg c_7]; rw [if_neg c_8]; rw [if_pos c_9]
                    exact ct_piret hx hb hr rfl hlocks d_Pn_wrongTag_174 hQ hS (by rw [ef])
                · refine lv_sipush (v := 282) hx hb d_Pn_wrongTag_151 (by decide) ?_
                  have ef : M_Pn_wrongTag nu p0 = 282 := by unfold M_Pn_wrongTag; (try dsimp only); rw [if_neg c_1]; rw [if_neg c_2]; rw [if_pos c_3]; rw [if_neg c_4]; rw [if_neg c_5]; rw [if_neg c_6]; rw [if_neg c_7]; rw [if_pos c_8]
                  exact ct_piret hx hb hr rfl hlocks d_Pn_wrongTag_154 hQ hS (by rw [ef])
              · refine lv_sipush (v := 296) hx hb d_Pn_wrongTag_135 (by decide) ?_
                have ef : M_Pn_wrongTag nu p0 = 296 := by unfold M_Pn_wrongTag; (try dsimp only); rw [if_neg c_1]; rw [if_neg c_2]; rw [if_pos c_3]; rw [if_neg c_4]; rw [if_neg c_5]; rw [if_neg c_6]; rw [if_pos c_7]
                exact ct_piret hx hb hr rfl hlocks d_Pn_wrongTag_138 hQ hS (by rw [ef])
            · refine lv_sipush (v := 278) hx hb d_Pn_wrongTag_114 (by decide) ?_
              have ef : M_Pn_wrongTag nu p0 = 278 := by unfold M_Pn_wrongTag; (try dsimp only); rw [if_neg c_1]; rw [if_neg c_2]; rw [if_pos c_3]; rw [if_neg c_4]; rw [if_neg c_5]; rw [if_pos c_6]
              exact ct_piret hx hb hr rfl hlocks d_Pn_wrongTag_117 hQ hS (by rw [ef])
          · refine lv_sipush (v := 266) hx hb d_Pn_wrongTag_99 (by decide) ?_
            have ef : M_Pn_wrongTag nu p0 = 266 := by unfold M_Pn_wrongTag; (try dsimp only); rw [if_neg c_1]; rw [if_neg c_2]; rw [if_pos c_3]; rw [if_neg c_4]; rw [if_pos c_5]
            exact ct_piret hx hb hr rfl hlocks d_Pn_wrongTag_102 hQ hS (by rw [ef])
        · refine lv_sipush (v := 262) hx hb d_Pn_wrongTag_79 (by decide) ?_
          have ef : M_Pn_wrongTag nu p0 = 262 := by unfold M_Pn_wrongTag; (try dsimp only); rw [if_neg c_1]; rw [if_neg c_2]; rw [if_pos c_3]; rw [if_pos c_4]
          exact ct_piret hx hb hr rfl hlocks d_Pn_wrongTag_82 hQ hS (by rw [ef])
      · refine lv_lload_n hx hb d_Pn_wrongTag_53 rfl (lv_at hl 0 rfl) ?_
        refine lv_ldc2 (v := 4) hx hb hown (hw kw_127) d_Pn_wrongTag_54 ?_
        refine W.lcmp hx hb d_Pn_wrongTag_57 ?_
        refine lv_if_eq (tgt := 65) hx hb d_Pn_wrongTag_58 (by decide) (fun c_10 => ?_) (fun c_10 => ?_)
        · refine lv_aload_n hx hb d_Pn_wrongTag_65 rfl (lv_at hl 1 rfl) ?_
          refine lv_iload_n hx hb d_Pn_wrongTag_66 rfl (lv_at hl 2 rfl) ?_
          refine lv_iconst (v := 3) hx hb d_Pn_wrongTag_67 (by decide) ?_
          refine ct_finP (ct_runV (n := 2) (C := R_Pn) (b := h0) (As := [.int p0, .int 3]) (rest := []) hH (c_Pn_get h0 h1 nu p0 3 _) ⟨cal_Pn_get, ⟨Nat.le_of_ble_eq_true rfl, Nat.le_of_ble_eq_true rfl⟩, (Nat.le_of_ble_eq_true rfl), (Nat.le_of_ble_eq_true rfl)⟩ kw_118 kw_119 kw_120 kw_121 kw_122 (va_recv hK.1 hP (ci := 3) (q0 := 0) rfl rfl) (hP.sub (ws' := [(h0, .inr (3, [.ref h1])), (h1, .inl (cJ, 520, .inr (.inl nu)))]) [0, 1] rfl) (hD.sub (ws' := [(h0, .inr (3, [.ref h1])), (h1, .inl (cJ, 520, .inr (.inl nu)))]) [0, 1] rfl rfl) rfl hl.1 (Nat.le_of_ble_eq_true rfl) d_Pn_wrongTag_68) hP hS (fun H hP hS => ?_)
          refine W.eq (g2 := F0 m 71 ls [.long (M_Pn_get nu p0 3)]) rfl ?_
          refine lv_lconst (v := 0) hx hb d_Pn_wrongTag_71 (by decide) ?_
          refine lv_lconst (v := 1) hx hb d_Pn_wrongTag_72 (by decide) ?_
          refine ct_finP (ct_runSN (host := "PictureFile") (n := 3) (As := [.long (M_Pn_get nu p0 3), .long 0, .long 1]) (rest := []) hH (c_PF_isWithin (M_Pn_get nu p0 3) 0 1 _) ⟨cal_PF_isWithin, ⟨Nat.le_of_ble_eq_true rfl, Nat.le_of_ble_eq_true rfl⟩, (Nat.le_of_ble_eq_true rfl), (Nat.le_of_ble_eq_true rfl)⟩ kw_124 kw_2 kw_3 kw_4 (hP.sub (ws' := []) [] rfl) (hD.sub (ws' := []) [] rfl rfl) rfl hl.1 (Nat.le_of_ble_eq_true rfl) d_Pn_wrongTag_73) hP hS (fun H hP hS => ?_)
          refine W.eq (g2 := F0 m 76 ls [.int (M_PF_isWithin (M_Pn_get nu p0 3) 0 1)]) rfl ?_
          refine lv_if_ne (tgt := 83) hx hb d_Pn_wrongTag_76 (by decide) (fun c_11 => ?_) (fun c_11 => ?_)
          · refine lv_aload_n hx hb d_Pn_wrongTag_83 rfl (lv_at hl 1 rfl) ?_
            refine lv_iload_n hx hb d_Pn_wrongTag_84 rfl (lv_at hl 2 rfl) ?_
            refine lv_iconst (v := 4) hx hb d_Pn_wrongTag_85 (by decide) ?_
            refine ct_finP (ct_runV (n := 2) (C := R_Pn) (b := h0) (As := [.int p0, .int 4]) (rest := []) hH (c_Pn_get h0 h1 nu p0 4 _) ⟨cal_Pn_get, ⟨Nat.le_of_ble_eq_true rfl, Nat.le_of_ble_eq_true rfl⟩, (Nat.le_of_ble_eq_true rfl), (Nat.le_of_ble_eq_true rfl)⟩ kw_118 kw_119 kw_120 kw_121 kw_122 (va_recv hK.1 hP (ci := 3) (q0 := 0) rfl rfl) (hP.sub (ws' := [(h0, .inr (3, [.ref h1])), (h1, .inl (cJ, 520, .inr (.inl nu)))]) [0, 1] rfl) (hD.sub (ws' := [(h0, .inr (3, [.ref h1])), (h1, .inl (cJ, 520, .inr (.inl nu)))]) [0, 1] rfl rfl) rfl hl.1 (Nat.le_of_ble_eq_true rfl) d_Pn_wrongTag_86) hP hS (fun H hP hS => ?_)
            refine W.eq (g2 := F0 m 89 ls [.long (M_Pn_get nu p0 4)]) rfl ?_
            refine lv_lconst (v := 1) hx hb d_Pn_wrongTag_89 (by decide) ?_
            refine lv_ldc2 (v := 2) hx hb hown (hw kw_125) d_Pn_wrongTag_90 ?_
            refine ct_finP (ct_runSN (host := "PictureFile") (n := 3) (As := [.long (M_Pn_get nu p0 4), .long 1, .long 2]) (rest := []) hH (c_PF_isWithin (M_Pn_get nu p0 4) 1 2 _) ⟨cal_PF_isWithin, ⟨Nat.le_of_ble_eq_true rfl, Nat.le_of_ble_eq_true rfl⟩, (Nat.le_of_ble_eq_true rfl), (Nat.le_of_ble_eq_true rfl)⟩ kw_124 kw_2 kw_3 kw_4 (hP.sub (ws' := []) [] rfl) (hD.sub (ws' := []) [] rfl rfl) rfl hl.1 (Nat.le_of_ble_eq_true rfl) d_Pn_wrongTag_93) hP hS (fun H hP hS => ?_)
            refine W.eq (g2 := F0 m 96 ls [.int (M_PF_isWithin (M_Pn_get nu p0 4) 1 2)]) rfl ?_
            refine lv_if_ne (tgt := 103) hx hb d_Pn_wrongTag_96 (by decide) (fun c_12 => ?_) (fun c_12 => ?_)
            · refine lv_aload_n hx hb d_Pn_wrongTag_103 rfl (lv_at hl 1 rfl) ?_
              refine lv_iload_n hx hb d_Pn_wrongTag_104 rfl (lv_at hl 2 rfl) ?_
              refine lv_iconst (v := 5) hx hb d_Pn_wrongTag_105 (by decide) ?_
              refine ct_finP (ct_runV (n := 2) (C := R_Pn) (b := h0) (As := [.int p0, .int 5]) (rest := []) hH (c_Pn_get h0 h1 nu p0 5 _) ⟨cal_Pn_get, ⟨Nat.le_of_ble_eq_true rfl, Nat.le_of_ble_eq_true rfl⟩, (Nat.le_of_ble_eq_true rfl), (Nat.le_of_ble_eq_true rfl)⟩ kw_118 kw_119 kw_120 kw_121 kw_122 (va_recv hK.1 hP (ci := 3) (q0 := 0) rfl rfl) (hP.sub (ws' := [(h0, .inr (3, [.ref h1])), (h1, .inl (cJ, 520, .inr (.inl nu)))]) [0, 1] rfl) (hD.sub (ws' := [(h0, .inr (3, [.ref h1])), (h1, .inl (cJ, 520, .inr (.inl nu)))]) [0, 1] rfl rfl) rfl hl.1 (Nat.le_of_ble_eq_true rfl) d_Pn_wrongTag_106) hP hS (fun H hP hS => ?_)
              refine W.eq (g2 := F0 m 109 ls [.long (M_Pn_get nu p0 5)]) rfl ?_
              refine lv_lconst (v := 0) hx hb d_Pn_wrongTag_109 (by decide) ?_
              refine W.lcmp hx hb d_Pn_wrongTag_110 ?_
              refine lv_if_ne (tgt := 118) hx hb d_Pn_wrongTag_111 (by decide) (fun c_13 => ?_) (fun c_13 => ?_)
              · refine lv_aload_n hx hb d_Pn_wrongTag_118 rfl (lv_at hl 1 rfl) ?_
                refine lv_iload_n hx hb d_Pn_wrongTag_119 rfl (lv_at hl 2 rfl) ?_
                refine lv_bipush (v := 7) hx hb d_Pn_wrongTag_120 (by decide) ?_
                refine ct_finP (ct_runV (n := 2) (C := R_Pn) (b := h0) (As := [.int p0, .int 7]) (rest := []) hH (c_Pn_get h0 h1 nu p0 7 _) ⟨cal_Pn_get, ⟨Nat.le_of_ble_eq_true rfl, Nat.le_of_ble_eq_true rfl⟩, (Nat.le_of_ble_eq_true rfl), (Nat.le_of_ble_eq_true rfl)⟩ kw_118 kw_119 kw_120 kw_121 kw_122 (va_recv hK.1 hP (ci := 3) (q0 := 0) rfl rfl) (hP.sub (ws' := [(h0, .inr (3, [.ref h1])), (h1, .inl (cJ, 520, .inr (.inl nu)))]) [0, 1] rfl) (hD.sub (ws' := [(h0, .inr (3, [.ref h1])), (h1, .inl (cJ, 520, .inr (.inl nu)))]) [0, 1] rfl rfl) rfl hl.1 (Nat.le_of_ble_eq_true rfl) d_Pn_wrongTag_122) hP hS (fun H hP hS => ?_)
                refine W.eq (g2 := F0 m 125 ls [.long (M_Pn_get nu p0 7)]) rfl ?_
                refine lv_lconst (v := 1) hx hb d_Pn_wrongTag_125 (by decide) ?_
                refine lv_ldc2 (v := 3) hx hb hown (hw kw_126) d_Pn_wrongTag_126 ?_
                refine ct_finP (ct_runSN (host := "PictureFile") (n := 3) (As := [.long (M_Pn_get nu p0 7), .long 1, .long 3]) (rest := []) hH (c_PF_isWithin (M_Pn_get nu p0 7) 1 3 _) ⟨cal_PF_isWithin, ⟨Nat.le_of_ble_eq_true rfl, Nat.le_of_ble_eq_true rfl⟩, (Nat.le_of_ble_eq_true rfl), (Nat.le_of_ble_eq_true rfl)⟩ kw_124 kw_2 kw_3 kw_4 (hP.sub (ws' := []) [] rfl) (hD.sub (ws' := []) [] rfl rfl) rfl hl.1 (Nat.le_of_ble_eq_true rfl) d_Pn_wrongTag_129) hP hS (fun H hP hS => ?_)
                refine W.eq (g2 := F0 m 132 ls [.int (M_PF_isWithin (M_Pn_get nu p0 7) 1 3)]) rfl ?_
                refine lv_if_ne (tgt := 139) hx hb d_Pn_wrongTag_132 (by decide) (fun c_14 => ?_) (fun c_14 => ?_)
                · refine lv_aload_n hx hb d_Pn_wrongTag_139 rfl (lv_at hl 1 rfl) ?_
                  refine lv_iload_n hx hb d_Pn_wrongTag_140 rfl (lv_at hl 2 rfl) ?_
                  refine lv_bipush (v := 9) hx hb d_Pn_wrongTag_141 (by decide) ?_
                  refine ct_finP (ct_runV (n := 2) (C := R_Pn) (b := h0) (As := [.int p0, .int 9]) (rest := []) hH (c_Pn_get h0 h1 nu p0 9 _) ⟨cal_Pn_get, ⟨Nat.le_of_ble_eq_true rfl, Nat.le_of_ble_eq_true rfl⟩, (Nat.le_of_ble_eq_true rfl), (Nat.le_of_ble_eq_true rfl)⟩ kw_118 kw_119 kw_120 kw_121 kw_122 (va_recv hK.1 hP (ci := 3) (q0 := 0) rfl rfl) (hP.sub (ws' := [(h0, .inr (3, [.ref h1])), (h1, .inl (cJ, 520, .inr (.inl nu)))]) [0, 1] rfl) (hD.sub (ws' := [(h0, .inr (3, [.ref h1])), (h1, .inl (cJ, 520, .inr (.inl nu)))]) [0, 1] rfl rfl) rfl hl.1 (Nat.le_of_ble_eq_true rfl) d_Pn_wrongTag_143) hP hS (fun H hP hS => ?_)
                  refine W.eq (g2 := F0 m 146 ls [.long (M_Pn_get nu p0 9)]) rfl ?_
                  refine lv_lconst (v := 0) hx hb d_Pn_wrongTag_146 (by decide) ?_
                  refine W.lcmp hx hb d_Pn_wrongTag_147 ?_
                  refine lv_if_ne (tgt := 155) hx hb d_Pn_wrongTag_148 (by decide) (fun c_15 => ?_) (fun c_15 => ?_)
                  · refine lv_aload_n hx hb d_Pn_wrongTag_155 rfl (lv_at hl 1 rfl) ?_
                    refine lv_iload_n hx hb d_Pn_wrongTag_156 rfl (lv_at hl 2 rfl) ?_
                    refine lv_bipush (v := 11) hx hb d_Pn_wrongTag_157 (by decide) ?_
                    refine ct_finP (ct_runV (n := 2) (C := R_Pn) (b := h0) (As := [.int p0, .int 11]) (rest := []) hH (c_Pn_get h0 h1 nu p0 11 _) ⟨cal_Pn_get, ⟨Nat.le_of_ble_eq_true rfl, Nat.le_of_ble_eq_true rfl⟩, (Nat.le_of_ble_eq_true rfl), (Nat.le_of_ble_eq_true rfl)⟩ kw_118 kw_119 kw_120 kw_121 kw_122 (va_recv hK.1 hP (ci := 3) (q0 := 0) rfl rfl) (hP.sub (ws' := [(h0, .inr (3, [.ref h1])), (h1, .inl (cJ, 520, .inr (.inl nu)))]) [0, 1] rfl) (hD.sub (ws' := [(h0, .inr (3, [.ref h1])), (h1, .inl (cJ, 520, .inr (.inl nu)))]) [0, 1] rfl rfl) rfl hl.1 (Nat.le_of_ble_eq_true rfl) d_Pn_wrongTag_159) hP hS (fun H hP hS => ?_)
                    refine W.eq (g2 := F0 m 162 ls [.long (M_Pn_get nu p0 11)]) rfl ?_
                    refine lv_lconst (v := 0) hx hb d_Pn_wrongTag_162 (by decide) ?_
                    refine W.lcmp hx hb d_Pn_wrongTag_163 ?_
                    refine lv_if_ne (tgt := 173) hx hb d_Pn_wrongTag_164 (by decide) (fun c_16 => ?_) (fun c_16 => ?_)
                    · refine lv_iconst (v := 0) hx hb d_Pn_wrongTag_173 (by decide) ?_
                      have ef : M_Pn_wrongTag nu p0 = 0 := by unfold M_Pn_wrongTag; (try dsimp only); rw [if_neg c_1]; rw [if_neg c_2]; rw [if_neg c_3]; rw [if_pos c_10]; rw [if_neg c_11]; rw [if_neg c_12]; rw [if_neg c_13]; rw [if_neg c_14]; rw [if_neg c_15]; rw [if_neg c_16]
                      exact ct_piret hx hb hr rfl hlocks d_Pn_wrongTag_174 hQ hS (by rw [ef])
                    · refine lv_sipush (v := 283) hx hb d_Pn_wrongTag_167 (by decide) ?_
                      refine lv_goto (tgt := 174) hx hb d_Pn_wrongTag_170 (by decide) ?_
                      have ef : M_Pn_wrongTag nu p0 = 283 := by unfold M_Pn_wrongTag; (try dsimp only); rw [if_neg c_1]; rw [if_neg c_2]; rw [if_neg c_3]; rw [if_pos c_10]; rw [if_neg c_11]; rw [if_neg c_12]; rw [if_neg c_13]; rw [if_neg c_14]; rw [if_neg c_15]; rw [if_pos c_16]
                      exact ct_piret hx hb hr rfl hlocks d_Pn_wrongTag_174 hQ hS (by rw [ef])
                  · refine lv_sipush (v := 282) hx hb d_Pn_wrongTag_151 (by decide) ?_
                    have ef : M_Pn_wrongTag nu p0 = 282 := by unfold M_Pn_wrongTag; (try dsimp only); rw [if_neg c_1]; rw [if_neg c_2]; rw [if_neg c_3]; rw [if_pos c_10]; rw [if_neg c_11]; rw [if_neg c_12]; rw [if_neg c_13]; rw [if_neg c_14]; rw [if_pos c_15]
                    exact ct_piret hx hb hr rfl hlocks d_Pn_wrongTag_154 hQ hS (by rw [ef])
                · refine lv_sipush (v := 296) hx hb d_Pn_wrongTag_135 (by decide) ?_
                  have ef : M_Pn_wrongTag nu p0 = 296 := by unfold M_Pn_wrongTag; (try dsimp only); rw [if_neg c_1]; rw [if_neg c_2]; rw [if_neg c_3]; rw [if_pos c_10]; rw [if_neg c_11]; rw [if_neg c_12]; rw [if_neg c_13]; rw [if_pos c_14]
                  exact ct_piret hx hb hr rfl hlocks d_Pn_wrongTag_138 hQ hS (by rw [ef])
              · refine lv_sipush (v := 278) hx hb d_Pn_wrongTag_114 (by decide) ?_
                have ef : M_Pn_wrongTag nu p0 = 278 := by unfold M_Pn_wrongTag; (try dsimp only); rw [if_neg c_1]; rw [if_neg c_2]; rw [if_neg c_3]; rw [if_pos c_10]; rw [if_neg c_11]; rw [if_neg c_12]; rw [if_pos c_13]
                exact ct_piret hx hb hr rfl hlocks d_Pn_wrongTag_117 hQ hS (by rw [ef])
            · refine lv_sipush (v := 266) hx hb d_Pn_wrongTag_99 (by decide) ?_
              have ef : M_Pn_wrongTag nu p0 = 266 := by unfold M_Pn_wrongTag; (try dsimp only); rw [if_neg c_1]; rw [if_neg c_2]; rw [if_neg c_3]; rw [if_pos c_10]; rw [if_neg c_11]; rw [if_pos c_12]
              exact ct_piret hx hb hr rfl hlocks d_Pn_wrongTag_102 hQ hS (by rw [ef])
          · refine lv_sipush (v := 262) hx hb d_Pn_wrongTag_79 (by decide) ?_
            have ef : M_Pn_wrongTag nu p0 = 262 := by unfold M_Pn_wrongTag; (try dsimp only); rw [if_neg c_1]; rw [if_neg c_2]; rw [if_neg c_3]; rw [if_pos c_10]; rw [if_pos c_11]
            exact ct_piret hx hb hr rfl hlocks d_Pn_wrongTag_82 hQ hS (by rw [ef])
        · refine lv_sipush (v := 259) hx hb d_Pn_wrongTag_61 (by decide) ?_
          have ef : M_Pn_wrongTag nu p0 = 259 := by unfold M_Pn_wrongTag; (try dsimp only); rw [if_neg c_1]; rw [if_neg c_2]; rw [if_neg c_3]; rw [if_neg c_10]
          exact ct_piret hx hb hr rfl hlocks d_Pn_wrongTag_64 hQ hS (by rw [ef])
    · refine lv_sipush (v := 257) hx hb d_Pn_wrongTag_36 (by decide) ?_
      have ef : M_Pn_wrongTag nu p0 = 257 := by unfold M_Pn_wrongTag; (try dsimp only); rw [if_neg c_1]; rw [if_pos c_2]
      exact ct_piret hx hb hr rfl hlocks d_Pn_wrongTag_39 hQ hS (by rw [ef])
  · refine lv_sipush (v := 256) hx hb d_Pn_wrongTag_16 (by decide) ?_
    have ef : M_Pn_wrongTag nu p0 = 256 := by unfold M_Pn_wrongTag; (try dsimp only); rw [if_pos c_1]
    exact ct_piret hx hb hr rfl hlocks d_Pn_wrongTag_19 hQ hS (by rw [ef])
set_option maxHeartbeats 4000000 in
set_option maxRecDepth 100000 in
theorem c_En_forgetAll {l : Launch} {D : va_G} {cB cI cJ : ClassId} (h0 h1 h2 h3 h4 h5 : Nat) (ro : RowS) (ty : Nat → Int32) (ct : Nat → Int32) (pl : Nat → Int32) (hro : RowOK ro) : Ct classes BW l D (TY cB cI cJ) y_En_forgetAll b_En_forgetAll 1 none ({ frames := 1, cells := 0, slots := 0, locals := 23 } : Room) [.ref h0] [(h0, .inr (4, [.ref h1, .ref h3, .ref h4, .ref h5])), (h1, .inr (0, [.ref h2, .int ro.2.2])), (h2, .inl (cB, ro.1, .inl ro.2.1)), (h3, .inl (cI, 41, .inl ty)), (h4, .inl (cI, 41, .inl ct)), (h5, .inl (cI, 41, .inl pl))] (fun u : (Nat → Int32) => u = M_En_forgetAll ct) (fun u => none) (fun u => [(h0, .inr (4, [.ref h1, .ref h3, .ref h4, .ref h5])), (h1, .inr (0, [.ref h2, .int ro.2.2])), (h2, .inl (cB, ro.1, .inl ro.2.1)), (h3, .inl (cI, 41, .inl ty)), (h4, .inl (cI, 41, .inl u)), (h5, .inl (cI, 41, .inl pl))]) (0) (0) := by
  refine Ct.intro (by decide +kernel) (Nat.le_of_ble_eq_true rfl) ?_
  intro p e s m below meth c hx hb hr hml hlocks hnm hown hK A hAe hA hS hP hD ls hl Q hQ
  have hown : s.vm.findClass "PictureFile$Entries" = some m.cls := hown
  have hH : Hold classes BW D (TY cB cI cJ) p s m c b_En_forgetAll 1 "PictureFile$Entries" := ⟨bw_ok, hx, hb, hml, hown, hK⟩
  have hw : ∀ {w : Cond}, w ∈ BW → w.before ([.ref h0] : List Value).toArray s = true := fun h => Wd.at bw_ok hK.2 h
  have hl : lv_has ls 1 [(0, .ref h0)] := hl
  have bo0ro := RowOK.le hro
  refine lv_aload_n hx hb d_En_forgetAll_0 rfl (lv_at hl 0 rfl) ?_
  refine va_get (D := D) (ci := 4) (C := R_En) (T := F_En) (N := 4) hx hb (kl_En hK.2) (fun _ h => h) hown hK.1 hP 0 rfl rfl 2 (by decide) (hw kw_128) (fun _ h9 => h9) rfl d_En_forgetAll_1 ?_
  refine lv_iconst (v := 0) hx hb d_En_forgetAll_4 (by decide) ?_
  refine ct_fin (wr := [(h0, .inr (4, [.ref h1, .ref h3, .ref h4, .ref h5])), (h1, .inr (0, [.ref h2, .int ro.2.2])), (h2, .inl (cB, ro.1, .inl ro.2.1)), (h3, .inl (cI, 41, .inl ty)), (h5, .inl (cI, 41, .inl pl))]) (ct_runS (n := 2) (As := [.ref h4, .int 0]) (rest := []) hH (c_fillI h4 41 ct 0 (by omega) _) ⟨cal_fillI, ⟨Nat.le_of_ble_eq_true rfl, Nat.le_of_ble_eq_true rfl⟩, (Nat.le_of_ble_eq_true rfl), (Nat.le_of_ble_eq_true rfl)⟩ kw_129 kw_130 kw_20 kw_131 (hP.sub (ws' := [(h4, .inl (cI, 41, .inl ct))]) [4] rfl) (hD.sub (ws' := [(h4, .inl (cI, 41, .inl ct))]) [4] rfl rfl) rfl hl.1 (Nat.le_of_ble_eq_true rfl) d_En_forgetAll_5) hP hD hS hA [4] [0, 1, 2, 3, 5] rfl rfl rfl (by decide) (fun u H locs hp hP hD hS => ?_)
  have hP : va_P D classes [(h0, .inr (4, [.ref h1, .ref h3, .ref h4, .ref h5])), (h1, .inr (0, [.ref h2, .int ro.2.2])), (h2, .inl (cB, ro.1, .inl ro.2.1)), (h3, .inl (cI, 41, .inl ty)), (h5, .inl (cI, 41, .inl pl)), (h4, .inl (cI, 41, .inl (fillN ct 41 0)))] H := hP
  have hD : va_D A [(h0, .inr (4, [.ref h1, .ref h3, .ref h4, .ref h5])), (h1, .inr (0, [.ref h2, .int ro.2.2])), (h2, .inl (cB, ro.1, .inl ro.2.1)), (h3, .inl (cI, 41, .inl ty)), (h5, .inl (cI, 41, .inl pl)), (h4, .inl (cI, 41, .inl (fillN ct 41 0)))] := hD
  refine W.eq (g2 := F0 m 8 ls []) rfl ?_
  have ef : M_En_forgetAll ct = (fillN ct 41 0) := by rfl
  exact ct_vret hx hb hr hlocks d_En_forgetAll_8 ⟨Nat.zero_le _, Nat.zero_le _⟩ hQ hAe hS (fillN ct 41 0) rfl ef.symm (hP.sub [0, 1, 2, 3, 5, 4] rfl) (hD.sub [0, 1, 2, 3, 5, 4] rfl rfl)
set_option maxHeartbeats 4000000 in
set_option maxRecDepth 100000 in
theorem c_En_widestType {l : Launch} {D : va_G} {cB cI cJ : ClassId} (p0 : Int32) : CtP classes BW l D (TY cB cI cJ) y_En_widestType b_En_widestType 1 (some .int) ({ frames := 0, cells := 0, slots := 0, locals := 0 } : Room) [.int p0] [] (some (.int (M_En_widestType p0))) := by
  refine CtP.intro (by decide +kernel) (Nat.le_of_ble_eq_true rfl) ?_
  intro p e s m below meth c hx hb hr hml hlocks hnm hown hK hS hP hD ls hl Q hQ
  have hown : s.vm.findClass "PictureFile$Entries" = some m.cls := hown
  have hH : Hold classes BW D (TY cB cI cJ) p s m c b_En_widestType 1 "PictureFile$Entries" := ⟨bw_ok, hx, hb, hml, hown, hK⟩
  have hw : ∀ {w : Cond}, w ∈ BW → w.before ([.int p0] : List Value).toArray s = true := fun h => Wd.at bw_ok hK.2 h
  have hl : lv_has ls 1 [(0, .int p0)] := hl
  refine lv_iload_n hx hb d_En_widestType_0 rfl (lv_at hl 0 rfl) ?_
  by_cases c_1 : p0 = 256
  · refine lv_tableIn (tgt := 182) (off := 181) hx hb d_En_widestType_1 (by rw [c_1]; decide) (by rw [c_1]; decide) (by rw [c_1]; rfl) (by decide) ?_
    refine lv_iconst (v := 4) hx hb d_En_widestType_182 (by decide) ?_
    have ef : M_En_widestType p0 = 4 := by unfold M_En_widestType; (try dsimp only); rw [if_pos c_1]
    exact ct_piret hx hb hr rfl hlocks d_En_widestType_183 hQ hS (by rw [ef])
  by_cases c_2 : p0 = 257
  · refine lv_tableIn (tgt := 182) (off := 181) hx hb d_En_widestType_1 (by rw [c_2]; decide) (by rw [c_2]; decide) (by rw [c_2]; rfl) (by decide) ?_
    refine lv_iconst (v := 4) hx hb d_En_widestType_182 (by decide) ?_
    have ef : M_En_widestType p0 = 4 := by unfold M_En_widestType; (try dsimp only); rw [if_neg c_1]; rw [if_pos c_2]
    exact ct_piret hx hb hr rfl hlocks d_En_widestType_183 hQ hS (by rw [ef])
  by_cases c_3 : p0 = 259
  · refine lv_tableIn (tgt := 184) (off := 183) hx hb d_En_widestType_1 (by rw [c_3]; decide) (by rw [c_3]; decide) (by rw [c_3]; rfl) (by decide) ?_
    refine lv_iconst (v := 3) hx hb d_En_widestType_184 (by decide) ?_
    have ef : M_En_widestType p0 = 3 := by unfold M_En_widestType; (try dsimp only); rw [if_neg c_1]; rw [if_neg c_2]; rw [if_pos c_3]
    exact ct_piret hx hb hr rfl hlocks d_En_widestType_185 hQ hS (by rw [ef])
  by_cases c_4 : p0 = 262
  · refine lv_tableIn (tgt := 184) (off := 183) hx hb d_En_widestType_1 (by rw [c_4]; decide) (by rw [c_4]; decide) (by rw [c_4]; rfl) (by decide) ?_
    refine lv_iconst (v := 3) hx hb d_En_widestType_184 (by decide) ?_
    have ef : M_En_widestType p0 = 3 := by unfold M_En_widestType; (try dsimp only); rw [if_neg c_1]; rw [if_neg c_2]; rw [if_neg c_3]; rw [if_pos c_4]
    exact ct_piret hx hb hr rfl hlocks d_En_widestType_185 hQ hS (by rw [ef])
  by_cases c_5 : p0 = 266
  · refine lv_tableIn (tgt := 184) (off := 183) hx hb d_En_widestType_1 (by rw [c_5]; decide) (by rw [c_5]; decide) (by rw [c_5]; rfl) (by decide) ?_
    refine lv_iconst (v := 3) hx hb d_En_widestType_184 (by decide) ?_
    have ef : M_En_widestType p0 = 3 := by unfold M_En_widestType; (try dsimp only); rw [if_neg c_1]; rw [if_neg c_2]; rw [if_neg c_3]; rw [if_neg c_4]; rw [if_pos c_5]
    exact ct_piret hx hb hr rfl hlocks d_En_widestType_185 hQ hS (by rw [ef])
  by_cases c_6 : p0 = 273
  · refine lv_tableIn (tgt := 182) (off := 181) hx hb d_En_widestType_1 (by rw [c_6]; decide) (by rw [c_6]; decide) (by rw [c_6]; rfl) (by decide) ?_
    refine lv_iconst (v := 4) hx hb d_En_widestType_182 (by decide) ?_
    have ef : M_En_widestType p0 = 4 := by unfold M_En_widestType; (try dsimp only); rw [if_neg c_1]; rw [if_neg c_2]; rw [if_neg c_3]; rw [if_neg c_4]; rw [if_neg c_5]; rw [if_pos c_6]
    exact ct_piret hx hb hr rfl hlocks d_En_widestType_183 hQ hS (by rw [ef])
  by_cases c_7 : p0 = 278
  · refine lv_tableIn (tgt := 182) (off := 181) hx hb d_En_widestType_1 (by rw [c_7]; decide) (by rw [c_7]; decide) (by rw [c_7]; rfl) (by decide) ?_
    refine lv_iconst (v := 4) hx hb d_En_widestType_182 (by decide) ?_
    have ef : M_En_widestType p0 = 4 := by unfold M_En_widestType; (try dsimp only); rw [if_neg c_1]; rw [if_neg c_2]; rw [if_neg c_3]; rw [if_neg c_4]; rw [if_neg c_5]; rw [if_neg c_6]; rw [if_pos c_7]
    exact ct_piret hx hb hr rfl hlocks d_En_widestType_183 hQ hS (by rw [ef])
  by_cases c_8 : p0 = 279
  · refine lv_tableIn (tgt := 182) (off := 181) hx hb d_En_widestType_1 (by rw [c_8]; decide) (by rw [c_8]; decide) (by rw [c_8]; rfl) (by decide) ?_
    refine lv_iconst (v := 4) hx hb d_En_widestType_182 (by decide) ?_
    have ef : M_En_widestType p0 = 4 := by unfold M_En_widestType; (try dsimp only); rw [if_neg c_1]; rw [if_neg c_2]; rw [if_neg c_3]; rw [if_neg c_4]; rw [if_neg c_5]; rw [if_neg c_6]; rw [if_neg c_7]; rw [if_pos c_8]
    exact ct_piret hx hb hr rfl hlocks d_En_widestType_183 hQ hS (by rw [ef])
  by_cases c_9 : p0 = 282
  · refine lv_tableIn (tgt := 180) (off := 179) hx hb d_En_widestType_1 (by rw [c_9]; decide) (by rw [c_9]; decide) (by rw [c_9]; rfl) (by decide) ?_
    refine lv_iconst (v := 5) hx hb d_En_widestType_180 (by decide) ?_
    have ef : M_En_widestType p0 = 5 := by unfold M_En_widestType; (try dsimp only); rw [if_neg c_1]; rw [if_neg c_2]; rw [if_neg c_3]; rw [if_neg c_4]; rw [if_neg c_5]; rw [if_neg c_6]; rw [if_neg c_7]; rw [if_neg c_8]; rw [if_pos c_9]
    exact ct_piret hx hb hr rfl hlocks d_En_widestType_181 hQ hS (by rw [ef])
  by_cases c_10 : p0 = 283
  · refine lv_tableIn (tgt := 180) (off := 179) hx hb d_En_widestType_1 (by rw [c_10]; decide) (by rw [c_10]; decide) (by rw [c_10]; rfl) (by decide) ?_
    refine lv_iconst (v := 5) hx hb d_En_widestType_180 (by decide) ?_
    have ef : M_En_widestType p0 = 5 := by unfold M_En_widestType; (try dsimp only); rw [if_neg c_1]; rw [if_neg c_2]; rw [if_neg c_3]; rw [if_neg c_4]; rw [if_neg c_5]; rw [if_neg c_6]; rw [if_neg c_7]; rw [if_neg c_8]; rw [if_neg c_9]; rw [if_pos c_10]
    exact ct_piret hx hb hr rfl hlocks d_En_widestType_181 hQ hS (by rw [ef])
  by_cases c_11 : p0 = 296
  · refine lv_tableIn (tgt := 184) (off := 183) hx hb d_En_widestType_1 (by rw [c_11]; decide) (by rw [c_11]; decide) (by rw [c_11]; rfl) (by decide) ?_
    refine lv_iconst (v := 3) hx hb d_En_widestType_184 (by decide) ?_
    have ef : M_En_widestType p0 = 3 := by unfold M_En_widestType; (try dsimp only); rw [if_neg c_1]; rw [if_neg c_2]; rw [if_neg c_3]; rw [if_neg c_4]; rw [if_neg c_5]; rw [if_neg c_6]; rw [if_neg c_7]; rw [if_neg c_8]; rw [if_neg c_9]; rw [if_neg c_10]; rw [if_pos c_11]
    exact ct_piret hx hb hr rfl hlocks d_En_widestType_185 hQ hS (by rw [ef])
  have nc_1 : ¬ p0.toInt = 256 := fun h => c_1 (Int32.toInt_inj.mp h)
  have nc_2 : ¬ p0.toInt = 257 := fun h => c_2 (Int32.toInt_inj.mp h)
  have nc_3 : ¬ p0.toInt = 259 := fun h => c_3 (Int32.toInt_inj.mp h)
  have nc_4 : ¬ p0.toInt = 262 := fun h => c_4 (Int32.toInt_inj.mp h)
  have nc_5 : ¬ p0.toInt = 266 := fun h => c_5 (Int32.toInt_inj.mp h)
  have nc_6 : ¬ p0.toInt = 273 := fun h => c_6 (Int32.toInt_inj.mp h)
  have nc_7 : ¬ p0.toInt = 278 := fun h => c_7 (Int32.toInt_inj.mp h)
  have nc_8 : ¬ p0.toInt = 279 := fun h => c_8 (Int32.toInt_inj.mp h)
  have nc_9 : ¬ p0.toInt = 282 := fun h => c_9 (Int32.toInt_inj.mp h)
  have nc_10 : ¬ p0.toInt = 283 := fun h => c_10 (Int32.toInt_inj.mp h)
  have nc_11 : ¬ p0.toInt = 296 := fun h => c_11 (Int32.toInt_inj.mp h)
  refine lv_tableD (tgt := 186) hx hb d_En_widestType_1 (by rcases (show (p0.toInt < 256 ∨ 296 < p0.toInt) ∨ (p0.toInt = 258 ∨ p0.toInt = 260 ∨ p0.toInt = 261 ∨ p0.toInt = 263 ∨ p0.toInt = 264 ∨ p0.toInt = 265 ∨ p0.toInt = 267 ∨ p0.toInt = 268 ∨ p0.toInt = 269 ∨ p0.toInt = 270 ∨ p0.toInt = 271 ∨ p0.toInt = 272 ∨ p0.toInt = 274 ∨ p0.toInt = 275 ∨ p0.toInt = 276 ∨ p0.toInt = 277 ∨ p0.toInt = 280 ∨ p0.toInt = 281 ∨ p0.toInt = 284 ∨ p0.toInt = 285 ∨ p0.toInt = 286 ∨ p0.toInt = 287 ∨ p0.toInt = 288 ∨ p0.toInt = 289 ∨ p0.toInt = 290 ∨ p0.toInt = 291 ∨ p0.toInt = 292 ∨ p0.toInt = 293 ∨ p0.toInt = 294 ∨ p0.toInt = 295) by omega) with h | h; exact h.elim Or.inl (fun h => Or.inr (Or.inl h)); exact Or.inr (Or.inr (by rcases h with h | h | h | h | h | h | h | h | h | h | h | h | h | h | h | h | h | h | h | h | h | h | h | h | h | h | h | h | h | h <;> rw [h] <;> rfl))) (by decide) ?_
  refine lv_iconst (v := 0) hx hb d_En_widestType_186 (by decide) ?_
  have ef : M_En_widestType p0 = 0 := by unfold M_En_widestType; (try dsimp only); rw [if_neg c_1]; rw [if_neg c_2]; rw [if_neg c_3]; rw [if_neg c_4]; rw [if_neg c_5]; rw [if_neg c_6]; rw [if_neg c_7]; rw [if_neg c_8]; rw [if_neg c_9]; rw [if_neg c_10]; rw [if_neg c_11]
  exact ct_piret hx hb hr rfl hlocks d_En_widestType_187 hQ hS (by rw [ef])
set_option maxHeartbeats 4000000 in
set_option maxRecDepth 100000 in
theorem c_En_canHaveType {l : Launch} {D : va_G} {cB cI cJ : ClassId} (p0 : Int32) (p1 : Int32) : CtP classes BW l D (TY cB cI cJ) y_En_canHaveType b_En_canHaveType 3 (some .boolean) ({ frames := 1, cells := 0, slots := 0, locals := 20 } : Room) [.int p0, .int p1] [] (some (.int (M_En_canHaveType p0 p1))) := by
  refine CtP.intro (by decide +kernel) (Nat.le_of_ble_eq_true rfl) ?_
  intro p e s m below meth c hx hb hr hml hlocks hnm hown hK hS hP hD ls hl Q hQ
  have hown : s.vm.findClass "PictureFile$Entries" = some m.cls := hown
  have hH : Hold classes BW D (TY cB cI cJ) p s m c b_En_canHaveType 3 "PictureFile$Entries" := ⟨bw_ok, hx, hb, hml, hown, hK⟩
  have hw : ∀ {w : Cond}, w ∈ BW → w.before ([.int p0, .int p1] : List Value).toArray s = true := fun h => Wd.at bw_ok hK.2 h
  have hl : lv_has ls 3 [(0, .int p0), (1, .int p1)] := hl
  refine lv_iload_n hx hb d_En_canHaveType_0 rfl (lv_at hl 0 rfl) ?_
  refine ct_finP (ct_runS (n := 1) (As := [.int p0]) (rest := []) hH (c_En_widestType p0 _) ⟨cal_En_widestType, ⟨Nat.le_of_ble_eq_true rfl, Nat.le_of_ble_eq_true rfl⟩, (Nat.le_of_ble_eq_true rfl), (Nat.le_of_ble_eq_true rfl)⟩ kw_132 kw_133 kw_134 kw_135 (hP.sub (ws' := []) [] rfl) (hD.sub (ws' := []) [] rfl rfl) rfl hl.1 (Nat.le_of_ble_eq_true rfl) d_En_canHaveType_1) hP hS (fun H hP hS => ?_)
  refine W.eq (g2 := F0 m 4 ls [.int (M_En_widestType p0)]) rfl ?_
  refine lv_istore_n (lv' := [(2, .int (M_En_widestType p0)), (0, .int p0), (1, .int p1)]) hx hb d_En_canHaveType_4 rfl hl (by decide) rfl (fun ls hl => ?_)
  refine lv_iload_n hx hb d_En_canHaveType_5 rfl (lv_at hl 2 rfl) ?_
  refine lv_iload_n hx hb d_En_canHaveType_6 rfl (lv_at hl 0 rfl) ?_
  refine lv_icmp_eq (tgt := 20) hx hb d_En_canHaveType_7 (by decide) (fun c_1 => ?_) (fun c_1 => ?_)
  · refine lv_iconst (v := 1) hx hb d_En_canHaveType_20 (by decide) ?_
    refine lv_goto (tgt := 25) hx hb d_En_canHaveType_21 (by decide) ?_
    have ef : M_En_canHaveType p0 p1 = 1 := by unfold M_En_canHaveType; (try dsimp only); rw [if_pos c_1]
    exact ct_piret hx hb hr (rfl) hlocks d_En_canHaveType_25 hQ hS (by rw [ef])
  · refine lv_iload_n hx hb d_En_canHaveType_10 rfl (lv_at hl 0 rfl) ?_
    refine lv_iconst (v := 4) hx hb d_En_canHaveType_11 (by decide) ?_
    refine lv_icmp_ne (tgt := 24) hx hb d_En_canHaveType_12 (by decide) (fun c_2 => ?_) (fun c_2 => ?_)
    · refine lv_iconst (v := 0) hx hb d_En_canHaveType_24 (by decide) ?_
      have ef : M_En_canHaveType p0 p1 = 0 := by unfold M_En_canHaveType; (try dsimp only); rw [if_neg c_1]; rw [if_neg c_2]
      exact ct_piret hx hb hr (rfl) hlocks d_En_canHaveType_25 hQ hS (by rw [ef])
    · refine lv_iload_n hx hb d_En_canHaveType_15 rfl (lv_at hl 2 rfl) ?_
      refine lv_iconst (v := 3) hx hb d_En_canHaveType_16 (by decide) ?_
      refine lv_icmp_ne (tgt := 24) hx hb d_En_canHaveType_17 (by decide) (fun c_3 => ?_) (fun c_3 => ?_)
      · refine lv_iconst (v := 0) hx hb d_En_canHaveType_24 (by decide) ?_
        have ef : M_En_canHaveType p0 p1 = 0 := by unfold M_En_canHaveType; (try dsimp only); rw [if_neg c_1]; rw [if_pos c_2]; rw [if_neg c_3]
        exact ct_piret hx hb hr (rfl) hlocks d_En_canHaveType_25 hQ hS (by rw [ef])
      · refine lv_iconst (v := 1) hx hb d_En_canHaveType_20 (by decide) ?_
        refine lv_goto (tgt := 25) hx hb d_En_canHaveType_21 (by decide) ?_
        have ef : M_En_canHaveType p0 p1 = 1 := by unfold M_En_canHaveType; (try dsimp only); rw [if_neg c_1]; rw [if_pos c_2]; rw [if_pos c_3]
        exact ct_piret hx hb hr (rfl) hlocks d_En_canHaveType_25 hQ hS (by rw [ef])
set_option maxHeartbeats 4000000 in
set_option maxRecDepth 100000 in
theorem c_En_canHaveCount {l : Launch} {D : va_G} {cB cI cJ : ClassId} (p0 : Int32) (p1 : Int64) : CtP classes BW l D (TY cB cI cJ) y_En_canHaveCount b_En_canHaveCount 3 (some .boolean) ({ frames := 1, cells := 0, slots := 0, locals := 25 } : Room) [.int p0, .long p1] [] (some (.int (M_En_canHaveCount p0 p1))) := by
  refine CtP.intro (by decide +kernel) (Nat.le_of_ble_eq_true rfl) ?_
  intro p e s m below meth c hx hb hr hml hlocks hnm hown hK hS hP hD ls hl Q hQ
  have hown : s.vm.findClass "PictureFile$Entries" = some m.cls := hown
  have hH : Hold classes BW D (TY cB cI cJ) p s m c b_En_canHaveCount 3 "PictureFile$Entries" := ⟨bw_ok, hx, hb, hml, hown, hK⟩
  have hw : ∀ {w : Cond}, w ∈ BW → w.before ([.int p0, .long p1] : List Value).toArray s = true := fun h => Wd.at bw_ok hK.2 h
  have hl : lv_has ls 3 [(0, .int p0), (1, .long p1)] := hl
  refine lv_lload_n hx hb d_En_canHaveCount_0 rfl (lv_at hl 1 rfl) ?_
  refine lv_lconst (v := 1) hx hb d_En_canHaveCount_1 (by decide) ?_
  refine lv_iload_n hx hb d_En_canHaveCount_2 rfl (lv_at hl 0 rfl) ?_
  refine lv_sipush (v := 273) hx hb d_En_canHaveCount_3 (by decide) ?_
  refine lv_icmp_eq (tgt := 16) hx hb d_En_canHaveCount_6 (by decide) (fun c_1 => ?_) (fun c_1 => ?_)
  · refine lv_ldc2 (v := 4096) hx hb hown (hw kw_136) d_En_canHaveCount_16 ?_
    refine lv_goto (tgt := 23) hx hb d_En_canHaveCount_19 (by decide) ?_
    refine ct_finP (ct_runSN (host := "PictureFile") (n := 3) (As := [.long p1, .long 1, .long 4096]) (rest := []) hH (c_PF_isWithin p1 1 4096 _) ⟨cal_PF_isWithin, ⟨Nat.le_of_ble_eq_true rfl, Nat.le_of_ble_eq_true rfl⟩, (Nat.le_of_ble_eq_true rfl), (Nat.le_of_ble_eq_true rfl)⟩ kw_137 kw_2 kw_3 kw_4 (hP.sub (ws' := []) [] rfl) (hD.sub (ws' := []) [] rfl rfl) rfl hl.1 (Nat.le_of_ble_eq_true rfl) d_En_canHaveCount_23) hP hS (fun H hP hS => ?_)
    refine W.eq (g2 := F0 m 26 ls [.int (M_PF_isWithin p1 1 4096)]) rfl ?_
    have ef : M_En_canHaveCount p0 p1 = (M_PF_isWithin p1 1 4096) := by unfold M_En_canHaveCount; (try dsimp only); rw [if_pos c_1]
    exact ct_piret hx hb hr (nb_PF_isWithin _ _ _) hlocks d_En_canHaveCount_26 hQ hS (by rw [ef])
  · refine lv_iload_n hx hb d_En_canHaveCount_9 rfl (lv_at hl 0 rfl) ?_
    refine lv_sipush (v := 279) hx hb d_En_canHaveCount_10 (by decide) ?_
    refine lv_icmp_ne (tgt := 22) hx hb d_En_canHaveCount_13 (by decide) (fun c_2 => ?_) (fun c_2 => ?_)
    · refine lv_lconst (v := 1) hx hb d_En_canHaveCount_22 (by decide) ?_
      refine ct_finP (ct_runSN (host := "PictureFile") (n := 3) (As := [.long p1, .long 1, .long 1]) (rest := []) hH (c_PF_isWithin p1 1 1 _) ⟨cal_PF_isWithin, ⟨Nat.le_of_ble_eq_true rfl, Nat.le_of_ble_eq_true rfl⟩, (Nat.le_of_ble_eq_true rfl), (Nat.le_of_ble_eq_true rfl)⟩ kw_137 kw_2 kw_3 kw_4 (hP.sub (ws' := []) [] rfl) (hD.sub (ws' := []) [] rfl rfl) rfl hl.1 (Nat.le_of_ble_eq_true rfl) d_En_canHaveCount_23) hP hS (fun H hP hS => ?_)
      refine W.eq (g2 := F0 m 26 ls [.int (M_PF_isWithin p1 1 1)]) rfl ?_
      have ef : M_En_canHaveCount p0 p1 = (M_PF_isWithin p1 1 1) := by unfold M_En_canHaveCount; (try dsimp only); rw [if_neg c_1]; rw [if_neg c_2]
      exact ct_piret hx hb hr (nb_PF_isWithin _ _ _) hlocks d_En_canHaveCount_26 hQ hS (by rw [ef])
    · refine lv_ldc2 (v := 4096) hx hb hown (hw kw_136) d_En_canHaveCount_16 ?_
      refine lv_goto (tgt := 23) hx hb d_En_canHaveCount_19 (by decide) ?_
      refine ct_finP (ct_runSN (host := "PictureFile") (n := 3) (As := [.long p1, .long 1, .long 4096]) (rest := []) hH (c_PF_isWithin p1 1 4096 _) ⟨cal_PF_isWithin, ⟨Nat.le_of_ble_eq_true rfl, Nat.le_of_ble_eq_true rfl⟩, (Nat.le_of_ble_eq_true rfl), (Nat.le_of_ble_eq_true rfl)⟩ kw_137 kw_2 kw_3 kw_4 (hP.sub (ws' := []) [] rfl) (hD.sub (ws' := []) [] rfl rfl) rfl hl.1 (Nat.le_of_ble_eq_true rfl) d_En_canHaveCount_23) hP hS (fun H hP hS => ?_)
      refine W.eq (g2 := F0 m 26 ls [.int (M_PF_isWithin p1 1 4096)]) rfl ?_
      have ef : M_En_canHaveCount p0 p1 = (M_PF_isWithin p1 1 4096) := by unfold M_En_canHaveCount; (try dsimp only); rw [if_neg c_1]; rw [if_pos c_2]
      exact ct_piret hx hb hr (nb_PF_isWithin _ _ _) hlocks d_En_canHaveCount_26 hQ hS (by rw [ef])
set_option maxHeartbeats 4000000 in
set_option maxRecDepth 100000 in
theorem c_En_bytesOf {l : Launch} {D : va_G} {cB cI cJ : ClassId} (p0 : Int32) : CtP classes BW l D (TY cB cI cJ) y_En_bytesOf b_En_bytesOf 1 (some .int) ({ frames := 0, cells := 0, slots := 0, locals := 0 } : Room) [.int p0] [] (some (.int (M_En_bytesOf p0))) := by
  refine CtP.intro (by decide +kernel) (Nat.le_of_ble_eq_true rfl) ?_
  intro p e s m below meth c hx hb hr hml hlocks hnm hown hK hS hP hD ls hl Q hQ
  have hown : s.vm.findClass "PictureFile$Entries" = some m.cls := hown
  have hH : Hold classes BW D (TY cB cI cJ) p s m c b_En_bytesOf 1 "PictureFile$Entries" := ⟨bw_ok, hx, hb, hml, hown, hK⟩
  have hw : ∀ {w : Cond}, w ∈ BW → w.before ([.int p0] : List Value).toArray s = true := fun h => Wd.at bw_ok hK.2 h
  have hl : lv_has ls 1 [(0, .int p0)] := hl
  refine lv_iload_n hx hb d_En_bytesOf_0 rfl (lv_at hl 0 rfl) ?_
  refine lv_iconst (v := 3) hx hb d_En_bytesOf_1 (by decide) ?_
  refine lv_icmp_ne (tgt := 9) hx hb d_En_bytesOf_2 (by decide) (fun c_1 => ?_) (fun c_1 => ?_)
  · refine lv_iload_n hx hb d_En_bytesOf_9 rfl (lv_at hl 0 rfl) ?_
    refine lv_iconst (v := 4) hx hb d_En_bytesOf_10 (by decide) ?_
    refine lv_icmp_ne (tgt := 18) hx hb d_En_bytesOf_11 (by decide) (fun c_2 => ?_) (fun c_2 => ?_)
    · refine lv_bipush (v := 8) hx hb d_En_bytesOf_18 (by decide) ?_
      have ef : M_En_bytesOf p0 = 8 := by unfold M_En_bytesOf; (try dsimp only); rw [if_neg c_1]; rw [if_neg c_2]
      exact ct_piret hx hb hr rfl hlocks d_En_bytesOf_20 hQ hS (by rw [ef])
    · refine lv_iconst (v := 4) hx hb d_En_bytesOf_14 (by decide) ?_
      refine lv_goto (tgt := 20) hx hb d_En_bytesOf_15 (by decide) ?_
      have ef : M_En_bytesOf p0 = 4 := by unfold M_En_bytesOf; (try dsimp only); rw [if_neg c_1]; rw [if_pos c_2]
      exact ct_piret hx hb hr rfl hlocks d_En_bytesOf_20 hQ hS (by rw [ef])
  · refine lv_iconst (v := 2) hx hb d_En_bytesOf_5 (by decide) ?_
    refine lv_goto (tgt := 20) hx hb d_En_bytesOf_6 (by decide) ?_
    have ef : M_En_bytesOf p0 = 2 := by unfold M_En_bytesOf; (try dsimp only); rw [if_pos c_1]
    exact ct_piret hx hb hr rfl hlocks d_En_bytesOf_20 hQ hS (by rw [ef])
set_option maxHeartbeats 4000000 in
set_option maxRecDepth 100000 in
theorem c_En_keepEntry {l : Launch} {D : va_G} {cB cI cJ : ClassId} (h0 h1 h2 h3 h4 h5 : Nat) (ro : RowS) (ty : Nat → Int32) (ct : Nat → Int32) (pl : Nat → Int32) (hro : RowOK ro) (p0 : Int32) (p1 : Int32) (p2 : Int32) (p3 : Int32) : Ct classes BW l D (TY cB cI cJ) y_En_keepEntry b_En_keepEntry 5 none ({ frames := 0, cells := 0, slots := 0, locals := 0 } : Room) [.ref h0, .int p0, .int p1, .int p2, .int p3] [(h0, .inr (4, [.ref h1, .ref h3, .ref h4, .ref h5])), (h1, .inr (0, [.ref h2, .int ro.2.2])), (h2, .inl (cB, ro.1, .inl ro.2.1)), (h3, .inl (cI, 41, .inl ty)), (h4, .inl (cI, 41, .inl ct)), (h5, .inl (cI, 41, .inl pl))] (fun u : (Nat → Int32) × (Nat → Int32) × (Nat → Int32) => u = M_En_keepEntry ty ct pl p0 p1 p2 p3) (fun u => none) (fun u => [(h0, .inr (4, [.ref h1, .ref h3, .ref h4, .ref h5])), (h1, .inr (0, [.ref h2, .int ro.2.2])), (h2, .inl (cB, ro.1, .inl ro.2.1)), (h3, .inl (cI, 41, .inl u.1)), (h4, .inl (cI, 41, .inl u.2.1)), (h5, .inl (cI, 41, .inl u.2.2))]) (0) (0) := by
  refine Ct.intro (by decide +kernel) (Nat.le_of_ble_eq_true rfl) ?_
  intro p e s m below meth c hx hb hr hml hlocks hnm hown hK A hAe hA hS hP hD ls hl Q hQ
  have hown : s.vm.findClass "PictureFile$Entries" = some m.cls := hown
  have hH : Hold classes BW D (TY cB cI cJ) p s m c b_En_keepEntry 5 "PictureFile$Entries" := ⟨bw_ok, hx, hb, hml, hown, hK⟩
  have hw : ∀ {w : Cond}, w ∈ BW → w.before ([.ref h0, .int p0, .int p1, .int p2, .int p3] : List Value).toArray s = true := fun h => Wd.at bw_ok hK.2 h
  have hl : lv_has ls 5 [(0, .ref h0), (1, .int p0), (2, .int p1), (3, .int p2), (4, .int p3)] := hl
  have bo0ro := RowOK.le hro
  refine lv_iload_n hx hb d_En_keepEntry_0 rfl (lv_at hl 1 rfl) ?_
  refine lv_if_lt (tgt := 32) hx hb d_En_keepEntry_1 (by decide) (fun c_1 => ?_) (fun c_1 => ?_)
  · have ef : M_En_keepEntry ty ct pl p0 p1 p2 p3 = (ty, ct, pl) := by unfold M_En_keepEntry; (try dsimp only); rw [if_pos c_1]
    exact ct_vret hx hb hr hlocks d_En_keepEntry_32 ⟨Nat.zero_le _, Nat.zero_le _⟩ hQ hAe hS (ty, ct, pl) rfl ef.symm (hP.sub [0, 1, 2, 3, 4, 5] rfl) (hD.sub [0, 1, 2, 3, 4, 5] rfl rfl)
  · refine lv_iload_n hx hb d_En_keepEntry_4 rfl (lv_at hl 1 rfl) ?_
    refine lv_bipush (v := 41) hx hb d_En_keepEntry_5 (by decide) ?_
    refine lv_icmp_ge (tgt := 32) hx hb d_En_keepEntry_7 (by decide) (fun c_2 => ?_) (fun c_2 => ?_)
    · have ef : M_En_keepEntry ty ct pl p0 p1 p2 p3 = (ty, ct, pl) := by unfold M_En_keepEntry; (try dsimp only); rw [if_neg c_1]; rw [if_pos c_2]
      exact ct_vret hx hb hr hlocks d_En_keepEntry_32 ⟨Nat.zero_le _, Nat.zero_le _⟩ hQ hAe hS (ty, ct, pl) rfl ef.symm (hP.sub [0, 1, 2, 3, 4, 5] rfl) (hD.sub [0, 1, 2, 3, 4, 5] rfl rfl)
    · refine lv_aload_n hx hb d_En_keepEntry_10 rfl (lv_at hl 0 rfl) ?_
      refine va_get (D := D) (ci := 4) (C := R_En) (T := F_En) (N := 4) hx hb (kl_En hK.2) (fun _ h => h) hown hK.1 hP 0 rfl rfl 1 (by decide) (hw kw_138) (fun _ h9 => h9) rfl d_En_keepEntry_11 ?_
      refine lv_iload_n hx hb d_En_keepEntry_14 rfl (lv_at hl 1 rfl) ?_
      refine lv_iload_n hx hb d_En_keepEntry_15 rfl (lv_at hl 2 rfl) ?_
      refine va_iast hx hb hK.1 hP hD hS 3 1 rfl rfl (vp_int c_1 c_2 (by omega)) d_En_keepEntry_16 (fun H locs hP hD hS => ?_)
      have hP : va_P D classes [(h0, .inr (4, [.ref h1, .ref h3, .ref h4, .ref h5])), (h1, .inr (0, [.ref h2, .int ro.2.2])), (h2, .inl (cB, ro.1, .inl ro.2.1)), (h3, .inl (cI, 41, .inl (upd ty p0.toNatClampNeg p1))), (h4, .inl (cI, 41, .inl ct)), (h5, .inl (cI, 41, .inl pl))] H := hP
      have hD : va_D A [(h0, .inr (4, [.ref h1, .ref h3, .ref h4, .ref h5])), (h1, .inr (0, [.ref h2, .int ro.2.2])), (h2, .inl (cB, ro.1, .inl ro.2.1)), (h3, .inl (cI, 41, .inl (upd ty p0.toNatClampNeg p1))), (h4, .inl (cI, 41, .inl ct)), (h5, .inl (cI, 41, .inl pl))] := hD
      refine lv_aload_n hx hb d_En_keepEntry_17 rfl (lv_at hl 0 rfl) ?_
      refine va_get (D := D) (ci := 4) (C := R_En) (T := F_En) (N := 4) hx hb (kl_En hK.2) (fun _ h => h) hown hK.1 hP 0 rfl rfl 2 (by decide) (hw kw_128) (fun _ h9 => h9) rfl d_En_keepEntry_18 ?_
      refine lv_iload_n hx hb d_En_keepEntry_21 rfl (lv_at hl 1 rfl) ?_
      refine lv_iload_n hx hb d_En_keepEntry_22 rfl (lv_at hl 3 rfl) ?_
      refine va_iast hx hb hK.1 hP hD hS 4 1 rfl rfl (vp_int c_1 c_2 (by omega)) d_En_keepEntry_23 (fun H locs hP hD hS => ?_)
      have hP : va_P D classes [(h0, .inr (4, [.ref h1, .ref h3, .ref h4, .ref h5])), (h1, .inr (0, [.ref h2, .int ro.2.2])), (h2, .inl (cB, ro.1, .inl ro.2.1)), (h3, .inl (cI, 41, .inl (upd ty p0.toNatClampNeg p1))), (h4, .inl (cI, 41, .inl (upd ct p0.toNatClampNeg p2))), (h5, .inl (cI, 41, .inl pl))] H := hP
      have hD : va_D A [(h0, .inr (4, [.ref h1, .ref h3, .ref h4, .ref h5])), (h1, .inr (0, [.ref h2, .int ro.2.2])), (h2, .inl (cB, ro.1, .inl ro.2.1)), (h3, .inl (cI, 41, .inl (upd ty p0.toNatClampNeg p1))), (h4, .inl (cI, 41, .inl (upd ct p0.toNatClampNeg p2))), (h5, .inl (cI, 41, .inl pl))] := hD
      refine lv_aload_n hx hb d_En_keepEntry_24 rfl (lv_at hl 0 rfl) ?_
      refine va_get (D := D) (ci := 4) (C := R_En) (T := F_En) (N := 4) hx hb (kl_En hK.2) (fun _ h => h) hown hK.1 hP 0 rfl rfl 3 (by decide) (hw kw_139) (fun _ h9 => h9) rfl d_En_keepEntry_25 ?_
      refine lv_iload_n hx hb d_En_keepEntry_28 rfl (lv_at hl 1 rfl) ?_
      refine lv_iload hx hb d_En_keepEntry_29 (lv_at hl 4 rfl) ?_
      refine va_iast hx hb hK.1 hP hD hS 5 1 rfl rfl (vp_int c_1 c_2 (by omega)) d_En_keepEntry_31 (fun H locs hP hD hS => ?_)
      have hP : va_P D classes [(h0, .inr (4, [.ref h1, .ref h3, .ref h4, .ref h5])), (h1, .inr (0, [.ref h2, .int ro.2.2])), (h2, .inl (cB, ro.1, .inl ro.2.1)), (h3, .inl (cI, 41, .inl (upd ty p0.toNatClampNeg p1))), (h4, .inl (cI, 41, .inl (upd ct p0.toNatClampNeg p2))), (h5, .inl (cI, 41, .inl (upd pl p0.toNatClampNeg p3)))] H := hP
      have hD : va_D A [(h0, .inr (4, [.ref h1, .ref h3, .ref h4, .ref h5])), (h1, .inr (0, [.ref h2, .int ro.2.2])), (h2, .inl (cB, ro.1, .inl ro.2.1)), (h3, .inl (cI, 41, .inl (upd ty p0.toNatClampNeg p1))), (h4, .inl (cI, 41, .inl (upd ct p0.toNatClampNeg p2))), (h5, .inl (cI, 41, .inl (upd pl p0.toNatClampNeg p3)))] := hD
      have ef : M_En_keepEntry ty ct pl p0 p1 p2 p3 = ((upd ty p0.toNatClampNeg p1), (upd ct p0.toNatClampNeg p2), (upd pl p0.toNatClampNeg p3)) := by unfold M_En_keepEntry; (try dsimp only); rw [if_neg c_1]; rw [if_neg c_2]
      exact ct_vret hx hb hr hlocks d_En_keepEntry_32 ⟨Nat.zero_le _, Nat.zero_le _⟩ hQ hAe hS ((upd ty p0.toNatClampNeg p1), (upd ct p0.toNatClampNeg p2), (upd pl p0.toNatClampNeg p3)) rfl ef.symm (hP.sub [0, 1, 2, 3, 4, 5] rfl) (hD.sub [0, 1, 2, 3, 4, 5] rfl rfl)
