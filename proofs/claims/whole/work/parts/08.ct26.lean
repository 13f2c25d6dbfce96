set_option maxHeartbeats 4000000 in
set_option maxRecDepth 100000 in
theorem c_Md_value {l : Launch} {D : va_G} {cB cI cJ : ClassId} (h0 h1 h2 h3 h4 h5 h6 h7 h8 : Nat) (md : Nat → Int32) (sz : Int32) (fr : Int32) (bf : Nat → Int32) (mp : Nat → Int32) (ml : Nat → Int32) (mn : Nat → Int64) (mf : Nat → Int32) (sp : Nat → Int32) (sl : Nat → Int32) (et : Nat → Int32) (p0 : Int32) (p1 : Int32) (hG : G_Md_value md bf et p0 p1) : CtP classes BW l D (TY cB cI cJ) y_Md_value b_Md_value 8 (some .long) ({ frames := 3, cells := 0, slots := 0, locals := 67 } : Room) [.ref h0, .int p0, .int p1] [(h0, .inr (7, [.int (md 0), .ref h1, .int sz, .int (md 1), .int (md 2), .int (md 3), .int (md 4), .int (md 5), .int (md 6), .int (md 7), .int (md 8), .int (md 9), .int (md 10), .int (md 11), .int (md 12), .int fr, .int (md 13), .ref h2, .ref h3, .int (md 14), .int (md 15), .ref h4, .ref h5, .ref h6, .ref h7, .int (md 16), .int (md 17), .int (md 18), .int (md 19), .ref h8])), (h1, .inl (cB, 65536, .inl bf)), (h2, .inl (cI, 512, .inl mp)), (h3, .inl (cI, 512, .inl ml)), (h4, .inl (cJ, 520, .inr (.inl mn))), (h5, .inl (cI, 41, .inl mf)), (h6, .inl (cI, 8192, .inl sp)), (h7, .inl (cI, 8192, .inl sl)), (h8, .inl (cI, 11, .inl et))] (some (.long (M_Md_value md bf et p0 p1))) := by
  refine CtP.intro (by decide +kernel) (Nat.le_of_ble_eq_true rfl) ?_
  intro p e s m below meth c hx hb hr hml hlocks hnm hown hK hS hP hD ls hl Q hQ
  have hown : s.vm.findClass "PictureFileModel" = some m.cls := hown
  have hH : Hold classes BW D (TY cB cI cJ) p s m c b_Md_value 8 "PictureFileModel" := ⟨bw_ok, hx, hb, hml, hown, hK⟩
  have hw : ∀ {w : Cond}, w ∈ BW → w.before ([.ref h0, .int p0, .int p1] : List Value).toArray s = true := fun h => Wd.at bw_ok hK.2 h
  have hl : lv_has ls 8 [(0, .ref h0), (1, .int p0), (2, .int p1)] := hl
  unfold G_Md_value at hG
  refine lv_aload_n hx hb d_Md_value_0 rfl (lv_at hl 0 rfl) ?_
  refine va_get (D := D) (ci := 7) (C := R_Md) (T := F_Md) (N := 30) hx hb (kl_Md hK.2) (fun _ h => h) hown hK.1 hP 0 rfl rfl 29 (by decide) (hw kw_387) (fun _ h9 => h9) rfl d_Md_value_1 ?_
  refine lv_iload_n hx hb d_Md_value_4 rfl (lv_at hl 1 rfl) ?_
  obtain ⟨g_1, hG⟩ := hG
  refine va_iald hx hb hK.1 hP 8 1 rfl rfl (g_1) d_Md_value_5 ?_
  refine lv_topi (fun y1 e1 => ?_)
  replace hG := hG y1 e1
  refine lv_istore_n (lv' := [(3, .int y1), (0, .ref h0), (1, .int p0), (2, .int p1)]) hx hb d_Md_value_6 rfl hl (by decide) rfl (fun ls hl => ?_)
  refine lv_aload_n hx hb d_Md_value_7 rfl (lv_at hl 1 rfl) ?_
  refine lv_iload_n hx hb d_Md_value_8 rfl (lv_at hl 0 rfl) ?_
  refine lv_iconst (v := 2) hx hb d_Md_value_9 (by decide) ?_
  refine lv_iadd hx hb d_Md_value_10 ?_
  obtain ⟨g_3, hG⟩ := hG
  refine ct_finP (ct_runV (n := 1) (C := R_Md) (b := h0) (As := [.int (y1 + 2)]) (rest := []) hH (c_Md_readTwo h0 h1 h2 h3 h4 h5 h6 h7 h8 md sz fr bf mp ml mn mf sp sl et (y1 + 2) g_3 _) ⟨cal_Md_readTwo, ⟨Nat.le_of_ble_eq_true rfl, Nat.le_of_ble_eq_true rfl⟩, (Nat.le_of_ble_eq_true rfl), (Nat.le_of_ble_eq_true rfl)⟩ kw_362 kw_363 kw_316 kw_364 kw_365 (va_recv hK.1 hP (ci := 7) (q0 := 0) rfl rfl) (hP.sub (ws' := [(h0, .inr (7, [.int (md 0), .ref h1, .int sz, .int (md 1), .int (md 2), .int (md 3), .int (md 4), .int (md 5), .int (md 6), .int (md 7), .int (md 8), .int (md 9), .int (md 10), .int (md 11), .int (md 12), .int fr, .int (md 13), .ref h2, .ref h3, .int (md 14), .int (md 15), .ref h4, .ref h5, .ref h6, .ref h7, .int (md 16), .int (md 17), .int (md 18), .int (md 19), .ref h8])), (h1, .inl (cB, 65536, .inl bf)), (h2, .inl (cI, 512, .inl mp)), (h3, .inl (cI, 512, .inl ml)), (h4, .inl (cJ, 520, .inr (.inl mn))), (h5, .inl (cI, 41, .inl mf)), (h6, .inl (cI, 8192, .inl sp)), (h7, .inl (cI, 8192, .inl sl)), (h8, .inl (cI, 11, .inl et))]) [0, 1, 2, 3, 4, 5, 6, 7, 8] rfl) (hD.sub (ws' := [(h0, .inr (7, [.int (md 0), .ref h1, .int sz, .int (md 1), .int (md 2), .int (md 3), .int (md 4), .int (md 5), .int (md 6), .int (md 7), .int (md 8), .int (md 9), .int (md 10), .int (md 11), .int (md 12), .int fr, .int (md 13), .ref h2, .ref h3, .int (md 14), .int (md 15), .ref h4, .ref h5, .ref h6, .ref h7, .int (md 16), .int (md 17), .int (md 18), .int (md 19), .ref h8])), (h1, .inl (cB, 65536, .inl bf)), (h2, .inl (cI, 512, .inl mp)), (h3, .inl (cI, 512, .inl ml)), (h4, .inl (cJ, 520, .inr (.inl mn))), (h5, .inl (cI, 41, .inl mf)), (h6, .inl (cI, 8192, .inl sp)), (h7, .inl (cI, 8192, .inl sl)), (h8, .inl (cI, 11, .inl et))]) [0, 1, 2, 3, 4, 5, 6, 7, 8] rfl rfl) rfl hl.1 (Nat.le_of_ble_eq_true rfl) d_Md_value_11) hP hS (fun H hP hS => ?_)
  refine W.eq (g2 := F0 m 14 ls [.int (M_Md_readTwo md bf (y1 + 2))]) rfl ?_
  refine lv_topi (fun y2 e2 => ?_)
  replace hG := hG y2 e2
  refine lv_istore (lv' := [(4, .int y2), (3, .int y1), (0, .ref h0), (1, .int p0), (2, .int p1)]) hx hb d_Md_value_14 hl (by decide) rfl (fun ls hl => ?_)
  refine lv_aload_n hx hb d_Md_value_16 rfl (lv_at hl 2 rfl) ?_
  refine lv_iload_n hx hb d_Md_value_17 rfl (lv_at hl 1 rfl) ?_
  refine lv_iconst (v := 4) hx hb d_Md_value_18 (by decide) ?_
  refine lv_iadd hx hb d_Md_value_19 ?_
  obtain ⟨g_5, hG⟩ := hG
  refine ct_finP (ct_runV (n := 1) (C := R_Md) (b := h0) (As := [.int (y1 + 4)]) (rest := []) hH (c_Md_readFour h0 h1 h2 h3 h4 h5 h6 h7 h8 md sz fr bf mp ml mn mf sp sl et (y1 + 4) g_5 _) ⟨cal_Md_readFour, ⟨Nat.le_of_ble_eq_true rfl, Nat.le_of_ble_eq_true rfl⟩, (Nat.le_of_ble_eq_true rfl), (Nat.le_of_ble_eq_true rfl)⟩ kw_379 kw_380 kw_316 kw_381 kw_382 (va_recv hK.1 hP (ci := 7) (q0 := 0) rfl rfl) (hP.sub (ws' := [(h0, .inr (7, [.int (md 0), .ref h1, .int sz, .int (md 1), .int (md 2), .int (md 3), .int (md 4), .int (md 5), .int (md 6), .int (md 7), .int (md 8), .int (md 9), .int (md 10), .int (md 11), .int (md 12), .int fr, .int (md 13), .ref h2, .ref h3, .int (md 14), .int (md 15), .ref h4, .ref h5, .ref h6, .ref h7, .int (md 16), .int (md 17), .int (md 18), .int (md 19), .ref h8])), (h1, .inl (cB, 65536, .inl bf)), (h2, .inl (cI, 512, .inl mp)), (h3, .inl (cI, 512, .inl ml)), (h4, .inl (cJ, 520, .inr (.inl mn))), (h5, .inl (cI, 41, .inl mf)), (h6, .inl (cI, 8192, .inl sp)), (h7, .inl (cI, 8192, .inl sl)), (h8, .inl (cI, 11, .inl et))]) [0, 1, 2, 3, 4, 5, 6, 7, 8] rfl) (hD.sub (ws' := [(h0, .inr (7, [.int (md 0), .ref h1, .int sz, .int (md 1), .int (md 2), .int (md 3), .int (md 4), .int (md 5), .int (md 6), .int (md 7), .int (md 8), .int (md 9), .int (md 10), .int (md 11), .int (md 12), .int fr, .int (md 13), .ref h2, .ref h3, .int (md 14), .int (md 15), .ref h4, .ref h5, .ref h6, .ref h7, .int (md 16), .int (md 17), .int (md 18), .int (md 19), .ref h8])), (h1, .inl (cB, 65536, .inl bf)), (h2, .inl (cI, 512, .inl mp)), (h3, .inl (cI, 512, .inl ml)), (h4, .inl (cJ, 520, .inr (.inl mn))), (h5, .inl (cI, 41, .inl mf)), (h6, .inl (cI, 8192, .inl sp)), (h7, .inl (cI, 8192, .inl sl)), (h8, .inl (cI, 11, .inl et))]) [0, 1, 2, 3, 4, 5, 6, 7, 8] rfl rfl) rfl hl.1 (Nat.le_of_ble_eq_true rfl) d_Md_value_20) hP hS (fun H hP hS => ?_)
  refine W.eq (g2 := F0 m 23 ls [.long (M_Md_readFour md bf (y1 + 4))]) rfl ?_
  refine lv_topl (fun y3 e3 => ?_)
  replace hG := hG y3 e3
  refine lv_lstore (lv' := [(5, .long y3), (4, .int y2), (3, .int y1), (0, .ref h0), (1, .int p0), (2, .int p1)]) hx hb d_Md_value_23 hl (by decide) rfl (fun ls hl => ?_)
  refine lv_lload hx hb d_Md_value_25 (lv_at hl 0 rfl) ?_
  refine lv_iload hx hb d_Md_value_27 (lv_at hl 1 rfl) ?_
  refine ct_finP (ct_runS (n := 1) (As := [.int y2]) (rest := [.long y3]) hH (c_Md_sizeOf y2 _) ⟨cal_Md_sizeOf, ⟨Nat.le_of_ble_eq_true rfl, Nat.le_of_ble_eq_true rfl⟩, (Nat.le_of_ble_eq_true rfl), (Nat.le_of_ble_eq_true rfl)⟩ kw_375 kw_376 kw_316 kw_377 (hP.sub (ws' := []) [] rfl) (hD.sub (ws' := []) [] rfl rfl) rfl hl.1 (Nat.le_of_ble_eq_true rfl) d_Md_value_29) hP hS (fun H hP hS => ?_)
  refine W.eq (g2 := F0 m 32 ls [.int (M_Md_sizeOf y2), .long y3]) rfl ?_
  refine lv_i2l hx hb d_Md_value_32 rfl ?_
  refine lv_lmul hx hb d_Md_value_33 ?_
  refine lv_ldc2 (v := 4) hx hb hown (hw kw_378) d_Md_value_34 ?_
  refine W.lcmp hx hb d_Md_value_37 ?_
  refine lv_if_gt (tgt := 48) hx hb d_Md_value_38 (by decide) (fun c_1 => ?_) (fun c_1 => ?_)
  · replace hG := gp_pos c_1 hG
    refine lv_aload_n hx hb d_Md_value_48 rfl (lv_at hl 3 rfl) ?_
    refine lv_iload_n hx hb d_Md_value_49 rfl (lv_at hl 2 rfl) ?_
    refine lv_bipush (v := 8) hx hb d_Md_value_50 (by decide) ?_
    refine lv_iadd hx hb d_Md_value_52 ?_
    obtain ⟨g_8, hG⟩ := hG
    refine ct_finP (ct_runV (n := 1) (C := R_Md) (b := h0) (As := [.int (y1 + 8)]) (rest := []) hH (c_Md_readFour h0 h1 h2 h3 h4 h5 h6 h7 h8 md sz fr bf mp ml mn mf sp sl et (y1 + 8) g_8 _) ⟨cal_Md_readFour, ⟨Nat.le_of_ble_eq_true rfl, Nat.le_of_ble_eq_true rfl⟩, (Nat.le_of_ble_eq_true rfl), (Nat.le_of_ble_eq_true rfl)⟩ kw_379 kw_380 kw_316 kw_381 kw_382 (va_recv hK.1 hP (ci := 7) (q0 := 0) rfl rfl) (hP.sub (ws' := [(h0, .inr (7, [.int (md 0), .ref h1, .int sz, .int (md 1), .int (md 2), .int (md 3), .int (md 4), .int (md 5), .int (md 6), .int (md 7), .int (md 8), .int (md 9), .int (md 10), .int (md 11), .int (md 12), .int fr, .int (md 13), .ref h2, .ref h3, .int (md 14), .int (md 15), .ref h4, .ref h5, .ref h6, .ref h7, .int (md 16), .int (md 17), .int (md 18), .int (md 19), .ref h8])), (h1, .inl (cB, 65536, .inl bf)), (h2, .inl (cI, 512, .inl mp)), (h3, .inl (cI, 512, .inl ml)), (h4, .inl (cJ, 520, .inr (.inl mn))), (h5, .inl (cI, 41, .inl mf)), (h6, .inl (cI, 8192, .inl sp)), (h7, .inl (cI, 8192, .inl sl)), (h8, .inl (cI, 11, .inl et))]) [0, 1, 2, 3, 4, 5, 6, 7, 8] rfl) (hD.sub (ws' := [(h0, .inr (7, [.int (md 0), .ref h1, .int sz, .int (md 1), .int (md 2), .int (md 3), .int (md 4), .int (md 5), .int (md 6), .int (md 7), .int (md 8), .int (md 9), .int (md 10), .int (md 11), .int (md 12), .int fr, .int (md 13), .ref h2, .ref h3, .int (md 14), .int (md 15), .ref h4, .ref h5, .ref h6, .ref h7, .int (md 16), .int (md 17), .int (md 18), .int (md 19), .ref h8])), (h1, .inl (cB, 65536, .inl bf)), (h2, .inl (cI, 512, .inl mp)), (h3, .inl (cI, 512, .inl ml)), (h4, .inl (cJ, 520, .inr (.inl mn))), (h5, .inl (cI, 41, .inl mf)), (h6, .inl (cI, 8192, .inl sp)), (h7, .inl (cI, 8192, .inl sl)), (h8, .inl (cI, 11, .inl et))]) [0, 1, 2, 3, 4, 5, 6, 7, 8] rfl rfl) rfl hl.1 (Nat.le_of_ble_eq_true rfl) d_Md_value_53) hP hS (fun H hP hS => ?_)
    refine W.eq (g2 := F0 m 56 ls [.long (M_Md_readFour md bf (y1 + 8))]) rfl ?_
    refine lv_l2i hx hb d_Md_value_56 rfl ?_
    refine lv_topi (fun y4 e4 => ?_)
    replace hG := hG y4 e4
    refine lv_istore (lv' := [(7, .int y4), (5, .long y3), (4, .int y2), (3, .int y1), (0, .ref h0), (1, .int p0), (2, .int p1)]) hx hb d_Md_value_57 hl (by decide) rfl (fun ls hl => ?_)
    refine lv_iload hx hb d_Md_value_59 (lv_at hl 2 rfl) ?_
    refine lv_iconst (v := 3) hx hb d_Md_value_61 (by decide) ?_
    refine lv_icmp_ne (tgt := 79) hx hb d_Md_value_62 (by decide) (fun c_2 => ?_) (fun c_2 => ?_)
    · replace hG := gp_neg c_2 hG
      refine lv_aload_n hx hb d_Md_value_79 rfl (lv_at hl 4 rfl) ?_
      refine lv_iload hx hb d_Md_value_80 (lv_at hl 0 rfl) ?_
      refine lv_iconst (v := 4) hx hb d_Md_value_82 (by decide) ?_
      refine lv_iload_n hx hb d_Md_value_83 rfl (lv_at hl 6 rfl) ?_
      refine lv_imul hx hb d_Md_value_84 ?_
      refine lv_iadd hx hb d_Md_value_85 ?_
      have g_11 := hG
      refine ct_finP (ct_runV (n := 1) (C := R_Md) (b := h0) (As := [.int (y4 + (4 * p1))]) (rest := []) hH (c_Md_readFour h0 h1 h2 h3 h4 h5 h6 h7 h8 md sz fr bf mp ml mn mf sp sl et (y4 + (4 * p1)) g_11 _) ⟨cal_Md_readFour, ⟨Nat.le_of_ble_eq_true rfl, Nat.le_of_ble_eq_true rfl⟩, (Nat.le_of_ble_eq_true rfl), (Nat.le_of_ble_eq_true rfl)⟩ kw_379 kw_380 kw_316 kw_381 kw_382 (va_recv hK.1 hP (ci := 7) (q0 := 0) rfl rfl) (hP.sub (ws' := [(h0, .inr (7, [.int (md 0), .ref h1, .int sz, .int (md 1), .int (md 2), .int (md 3), .int (md 4), .int (md 5), .int (md 6), .int (md 7), .int (md 8), .int (md 9), .int (md 10), .int (md 11), .int (md 12), .int fr, .int (md 13), .ref h2, .ref h3, .int (md 14), .int (md 15), .ref h4, .ref h5, .ref h6, .ref h7, .int (md 16), .int (md 17), .int (md 18), .int (md 19), .ref h8])), (h1, .inl (cB, 65536, .inl bf)), (h2, .inl (cI, 512, .inl mp)), (h3, .inl (cI, 512, .inl ml)), (h4, .inl (cJ, 520, .inr (.inl mn))), (h5, .inl (cI, 41, .inl mf)), (h6, .inl (cI, 8192, .inl sp)), (h7, .inl (cI, 8192, .inl sl)), (h8, .inl (cI, 11, .inl et))]) [0, 1, 2, 3, 4, 5, 6, 7, 8] rfl) (hD.sub (ws' := [(h0, .inr (7, [.int (md 0), .ref h1, .int sz, .int (md 1), .int (md 2), .int (md 3), .int (md 4), .int (md 5), .int (md 6), .int (md 7), .int (md 8), .int (md 9), .int (md 10), .int (md 11), .int (md 12), .int fr, .int (md 13), .ref h2, .ref h3, .int (md 14), .int (md 15), .ref h4, .ref h5, .ref h6, .ref h7, .int (md 16), .int (md 17), .int (md 18), .int (md 19), .ref h8])), (h1, .inl (cB, 65536, .inl bf)), (h2, .inl (cI, 512, .inl mp)), (h3, .inl (cI, 512, .inl ml)), (h4, .inl (cJ, 520, .inr (.inl mn))), (h5, .inl (cI, 41, .inl mf)), (h6, .inl (cI, 8192, .inl sp)), (h7, .inl (cI, 8192, .inl sl)), (h8, .inl (cI, 11, .inl et))]) [0, 1, 2, 3, 4, 5, 6, 7, 8] rfl rfl) rfl hl.1 (Nat.le_of_ble_eq_true rfl) d_Md_value_86) hP hS (fun H hP hS => ?_)
      refine W.eq (g2 := F0 m 89 ls [.long (M_Md_readFour md bf (y4 + (4 * p1)))]) rfl ?_
      have ef : M_Md_value md bf et p0 p1 = (M_Md_readFour md bf (y4 + (4 * p1))) := by unfold M_Md_value; (try dsimp only); (try rw [← e1]); (try rw [← e2]); (try rw [← e3]); rw [if_pos c_1]; (try rw [← e4]); rw [if_neg c_2]
      exact ct_plret hx hb hr hlocks d_Md_value_89 hQ hS (by rw [ef])
    · replace hG := gp_pos c_2 hG
      refine lv_aload_n hx hb d_Md_value_65 rfl (lv_at hl 4 rfl) ?_
      refine lv_iload hx hb d_Md_value_66 (lv_at hl 0 rfl) ?_
      refine lv_iconst (v := 2) hx hb d_Md_value_68 (by decide) ?_
      refine lv_iload_n hx hb d_Md_value_69 rfl (lv_at hl 6 rfl) ?_
      refine lv_imul hx hb d_Md_value_70 ?_
      refine lv_iadd hx hb d_Md_value_71 ?_
      have g_13 := hG
      refine ct_finP (ct_runV (n := 1) (C := R_Md) (b := h0) (As := [.int (y4 + (2 * p1))]) (rest := []) hH (c_Md_readTwo h0 h1 h2 h3 h4 h5 h6 h7 h8 md sz fr bf mp ml mn mf sp sl et (y4 + (2 * p1)) g_13 _) ⟨cal_Md_readTwo, ⟨Nat.le_of_ble_eq_true rfl, Nat.le_of_ble_eq_true rfl⟩, (Nat.le_of_ble_eq_true rfl), (Nat.le_of_ble_eq_true rfl)⟩ kw_362 kw_363 kw_316 kw_364 kw_365 (va_recv hK.1 hP (ci := 7) (q0 := 0) rfl rfl) (hP.sub (ws' := [(h0, .inr (7, [.int (md 0), .ref h1, .int sz, .int (md 1), .int (md 2), .int (md 3), .int (md 4), .int (md 5), .int (md 6), .int (md 7), .int (md 8), .int (md 9), .int (md 10), .int (md 11), .int (md 12), .int fr, .int (md 13), .ref h2, .ref h3, .int (md 14), .int (md 15), .ref h4, .ref h5, .ref h6, .ref h7, .int (md 16), .int (md 17), .int (md 18), .int (md 19), .ref h8])), (h1, .inl (cB, 65536, .inl bf)), (h2, .inl (cI, 512, .inl mp)), (h3, .inl (cI, 512, .inl ml)), (h4, .inl (cJ, 520, .inr (.inl mn))), (h5, .inl (cI, 41, .inl mf)), (h6, .inl (cI, 8192, .inl sp)), (h7, .inl (cI, 8192, .inl sl)), (h8, .inl (cI, 11, .inl et))]) [0, 1, 2, 3, 4, 5, 6, 7, 8] rfl) (hD.sub (ws' := [(h0, .inr (7, [.int (md 0), .ref h1, .int sz, .int (md 1), .int (md 2), .int (md 3), .int (md 4), .int (md 5), .int (md 6), .int (md 7), .int (md 8), .int (md 9), .int (md 10), .int (md 11), .int (md 12), .int fr, .int (md 13), .ref h2, .ref h3, .int (md 14), .int (md 15), .ref h4, .ref h5, .ref h6, .ref h7, .int (md 16), .int (md 17), .int (md 18), .int (md 19), .ref h8])), (h1, .inl (cB, 65536, .inl bf)), (h2, .inl (cI, 512, .inl mp)), (h3, .inl (cI, 512, .inl ml)), (h4, .inl (cJ, 520, .inr (.inl mn))), (h5, .inl (cI, 41, .inl mf)), (h6, .inl (cI, 8192, .inl sp)), (h7, .inl (cI, 8192, .inl sl)), (h8, .inl (cI, 11, .inl et))]) [0, 1, 2, 3, 4, 5, 6, 7, 8] rfl rfl) rfl hl.1 (Nat.le_of_ble_eq_true rfl) d_Md_value_72) hP hS (fun H hP hS => ?_)
      refine W.eq (g2 := F0 m 75 ls [.int (M_Md_readTwo md bf (y4 + (2 * p1)))]) rfl ?_
      refine lv_i2l hx hb d_Md_value_75 rfl ?_
      refine lv_goto (tgt := 89) hx hb d_Md_value_76 (by decide) ?_
      have ef : M_Md_value md bf et p0 p1 = (M_Md_readTwo md bf (y4 + (2 * p1))).toInt64 := by unfold M_Md_value; (try dsimp only); (try rw [← e1]); (try rw [← e2]); (try rw [← e3]); rw [if_pos c_1]; (try rw [← e4]); rw [if_pos c_2]
      exact ct_plret hx hb hr hlocks d_Md_value_89 hQ hS (by rw [ef])
  · replace hG := gp_neg c_1 hG
    refine lv_iload_n hx hb d_Md_value_41 rfl (lv_at hl 2 rfl) ?_
    refine lv_bipush (v := 8) hx hb d_Md_value_42 (by decide) ?_
    refine lv_iadd hx hb d_Md_value_44 ?_
    refine lv_goto (tgt := 57) hx hb d_Md_value_45 (by decide) ?_
    refine lv_topi (fun y5 e5 => ?_)
    replace hG := hG y5 e5
    refine lv_istore (lv' := [(7, .int y5), (5, .long y3), (4, .int y2), (3, .int y1), (0, .ref h0), (1, .int p0), (2, .int p1)]) hx hb d_Md_value_57 hl (by decide) rfl (fun ls hl => ?_)
    refine lv_iload hx hb d_Md_value_59 (lv_at hl 2 rfl) ?_
    refine lv_iconst (v := 3) hx hb d_Md_value_61 (by decide) ?_
    refine lv_icmp_ne (tgt := 79) hx hb d_Md_value_62 (by decide) (fun c_3 => ?_) (fun c_3 => ?_)
    · replace hG := gp_neg c_3 hG
      refine lv_aload_n hx hb d_Md_value_79 rfl (lv_at hl 4 rfl) ?_
      refine lv_iload hx hb d_Md_value_80 (lv_at hl 0 rfl) ?_
      refine lv_iconst (v := 4) hx hb d_Md_value_82 (by decide) ?_
      refine lv_iload_n hx hb d_Md_value_83 rfl (lv_at hl 6 rfl) ?_
      refine lv_imul hx hb d_Md_value_84 ?_
      refine lv_iadd hx hb d_Md_value_85 ?_
      have g_17 := hG
      refine ct_finP (ct_runV (n := 1) (C := R_Md) (b := h0) (As := [.int (y5 + (4 * p1))]) (rest := []) hH (c_Md_readFour h0 h1 h2 h3 h4 h5 h6 h7 h8 md sz fr bf mp ml mn mf sp sl et (y5 + (4 * p1)) g_17 _) ⟨cal_Md_readFour, ⟨Nat.le_of_ble_eq_true rfl, Nat.le_of_ble_eq_true rfl⟩, (Nat.le_of_ble_eq_true rfl), (Nat.le_of_ble_eq_true rfl)⟩ kw_379 kw_380 kw_316 kw_381 kw_382 (va_recv hK.1 hP (ci := 7) (q0 := 0) rfl rfl) (hP.sub (ws' := [(h0, .inr (7, [.int (md 0), .ref h1, .int sz, .int (md 1), .int (md 2), .int (md 3), .int (md 4), .int (md 5), .int (md 6), .int (md 7), .int (md 8), .int (md 9), .int (md 10), .int (md 11), .int (md 12), .int fr, .int (md 13), .ref h2, .ref h3, .int (md 14), .int (md 15), .ref h4, .ref h5, .ref h6, .ref h7, .int (md 16), .int (md 17), .int (md 18), .int (md 19), .ref h8])), (h1, .inl (cB, 65536, .inl bf)), (h2, .inl (cI, 512, .inl mp)), (h3, .inl (cI, 512, .inl ml)), (h4, .inl (cJ, 520, .inr (.inl mn))), (h5, .inl (cI, 41, .inl mf)), (h6, .inl (cI, 8192, .inl sp)), (h7, .inl (cI, 8192, .inl sl)), (h8, .inl (cI, 11, .inl et))]) [0, 1, 2, 3, 4, 5, 6, 7, 8] rfl) (hD.sub (ws' := [(h0, .inr (7, [.int (md 0), .ref h1, .int sz, .int (md 1), .int (md 2), .int (md 3), .int (md 4), .int (md 5), .int (md 6), .int (md 7), .int (md 8), .int (md 9), .int (md 10), .int (md 11), .int (md 12), .int fr, .int (md 13), .ref h2, .ref h3, .int (md 14), .int (md 15), .ref h4, .ref h5, .ref h6, .ref h7, .int (md 16), .int (md 17), .int (md 18), .int (md 19), .ref h8])), (h1, .inl (cB, 65536, .inl bf)), (h2, .inl (cI, 512, .inl mp)), (h3, .inl (cI, 512, .inl ml)), (h4, .inl (cJ, 520, .inr (.inl mn))), (h5, .inl (cI, 41, .inl mf)), (h6, .inl (cI, 8192, .inl sp)), (h7, .inl (cI, 8192, .inl sl)), (h8, .inl (cI, 11, .inl et))]) [0, 1, 2, 3, 4, 5, 6, 7, 8] rfl rfl) rfl hl.1 (Nat.le_of_ble_eq_true rfl) d_Md_value_86) hP hS (fun H hP hS => ?_)
      refine W.eq (g2 := F0 m 89 ls [.long (M_Md_readFour md bf (y5 + (4 * p1)))]) rfl ?_
      have ef : M_Md_value md bf et p0 p1 = (M_Md_readFour md bf (y5 + (4 * p1))) := by unfold M_Md_value; (try dsimp only); (try rw [← e1]); (try rw [← e2]); (try rw [← e3]); rw [if_neg c_1]; (try rw [← e5]); rw [if_neg c_3]
      exact ct_plret hx hb hr hlocks d_Md_value_89 hQ hS (by rw [ef])
    · replace hG := gp_pos c_3 hG
      refine lv_aload_n hx hb d_Md_value_65 rfl (lv_at hl 4 rfl) ?_
      refine lv_iload hx hb d_Md_value_66 (lv_at hl 0 rfl) ?_
      refine lv_iconst (v := 2) hx hb d_Md_value_68 (by decide) ?_
      refine lv_iload_n hx hb d_Md_value_69 rfl (lv_at hl 6 rfl) ?_
      refine lv_imul hx hb d_Md_value_70 ?_
      refine lv_iadd hx hb d_Md_value_71 ?_
      have g_19 := hG
      refine ct_finP (ct_runV (n := 1) (C := R_Md) (b := h0) (As := [.int (y5 + (2 * p1))]) (rest := []) hH (c_Md_readTwo h0 h1 h2 h3 h4 h5 h6 h7 h8 md sz fr bf mp ml mn mf sp sl et (y5 + (2 * p1)) g_19 _) ⟨cal_Md_readTwo, ⟨Nat.le_of_ble_eq_true rfl, Nat.le_of_ble_eq_true rfl⟩, (Nat.le_of_ble_eq_true rfl), (Nat.le_of_ble_eq_true rfl)⟩ kw_362 kw_363 kw_316 kw_364 kw_365 (va_recv hK.1 hP (ci := 7) (q0 := 0) rfl rfl) (hP.sub (ws' := [(h0, .inr (7, [.int (md 0), .ref h1, .int sz, .int (md 1), .int (md 2), .int (md 3), .int (md 4), .int (md 5), .int (md 6), .int (md 7), .int (md 8), .int (md 9), .int (md 10), .int (md 11), .int (md 12), .int fr, .int (md 13), .ref h2, .ref h3, .int (md 14), .int (md 15), .ref h4, .ref h5, .ref h6, .ref h7, .int (md 16), .int (md 17), .int (md 18), .int (md 19), .ref h8])), (h1, .inl (cB, 65536, .inl bf)), (h2, .inl (cI, 512, .inl mp)), (h3, .inl (cI, 512, .inl ml)), (h4, .inl (cJ, 520, .inr (.inl mn))), (h5, .inl (cI, 41, .inl mf)), (h6, .inl (cI, 8192, .inl sp)), (h7, .inl (cI, 8192, .inl sl)), (h8, .inl (cI, 11, .inl et))]) [0, 1, 2, 3, 4, 5, 6, 7, 8] rfl) (hD.sub (ws' := [(h0, .inr (7, [.int (md 0), .ref h1, .int sz, .int (md 1), .int (md 2), .int (md 3), .int (md 4), .int (md 5), .int (md 6), .int (md 7), .int (md 8), .int (md 9), .int (md 10), .int (md 11), .int (md 12), .int fr, .int (md 13), .ref h2, .ref h3, .int (md 14), .int (md 15), .ref h4, .ref h5, .ref h6, .ref h7, .int (md 16), .int (md 17), .int (md 18), .int (md 19), .ref h8])), (h1, .inl (cB, 65536, .inl bf)), (h2, .inl (cI, 512, .inl mp)), (h3, .inl (cI, 512, .inl ml)), (h4, .inl (cJ, 520, .inr (.inl mn))), (h5, .inl (cI, 41, .inl mf)), (h6, .inl (cI, 8192, .inl sp)), (h7, .inl (cI, 8192, .inl sl)), (h8, .inl (cI, 11, .inl et))]) [0, 1, 2, 3, 4, 5, 6, 7, 8] rfl rfl) rfl hl.1 (Nat.le_of_ble_eq_true rfl) d_Md_value_72) hP hS (fun H hP hS => ?_)
      refine W.eq (g2 := F0 m 75 ls [.int (M_Md_readTwo md bf (y5 + (2 * p1)))]) rfl ?_
      refine lv_i2l hx hb d_Md_value_75 rfl ?_
      refine lv_goto (tgt := 89) hx hb d_Md_value_76 (by decide) ?_
      have ef : M_Md_value md bf et p0 p1 = (M_Md_readTwo md bf (y5 + (2 * p1))).toInt64 := by unfold M_Md_value; (try dsimp only); (try rw [← e1]); (try rw [← e2]); (try rw [← e3]); rw [if_neg c_1]; (try rw [← e5]); rw [if_pos c_3]
      exact ct_plret hx hb hr hlocks d_Md_value_89 hQ hS (by rw [ef])
set_option maxHeartbeats 4000000 in
set_option maxRecDepth 100000 in
theorem c_Md_valueOr {l : Launch} {D : va_G} {cB cI cJ : ClassId} (h0 h1 h2 h3 h4 h5 h6 h7 h8 : Nat) (md : Nat → Int32) (sz : Int32) (fr : Int32) (bf : Nat → Int32) (mp : Nat → Int32) (ml : Nat → Int32) (mn : Nat → Int64) (mf : Nat → Int32) (sp : Nat → Int32) (sl : Nat → Int32) (et : Nat → Int32) (p0 : Int32) (p1 : Int32) (p2 : Int64) (hG : G_Md_valueOr md bf et p0 p1) : CtP classes BW l D (TY cB cI cJ) y_Md_valueOr b_Md_valueOr 5 (some .long) ({ frames := 4, cells := 0, slots := 0, locals := 94 } : Room) [.ref h0, .int p0, .int p1, .long p2] [(h0, .inr (7, [.int (md 0), .ref h1, .int sz, .int (md 1), .int (md 2), .int (md 3), .int (md 4), .int (md 5), .int (md 6), .int (md 7), .int (md 8), .int (md 9), .int (md 10), .int (md 11), .int (md 12), .int fr, .int (md 13), .ref h2, .ref h3, .int (md 14), .int (md 15), .ref h4, .ref h5, .ref h6, .ref h7, .int (md 16), .int (md 17), .int (md 18), .int (md 19), .ref h8])), (h1, .inl (cB, 65536, .inl bf)), (h2, .inl (cI, 512, .inl mp)), (h3, .inl (cI, 512, .inl ml)), (h4, .inl (cJ, 520, .inr (.inl mn))), (h5, .inl (cI, 41, .inl mf)), (h6, .inl (cI, 8192, .inl sp)), (h7, .inl (cI, 8192, .inl sl)), (h8, .inl (cI, 11, .inl et))] (some (.long (M_Md_valueOr md bf et p0 p1 p2))) := by
  refine CtP.intro (by decide +kernel) (Nat.le_of_ble_eq_true rfl) ?_
  intro p e s m below meth c hx hb hr hml hlocks hnm hown hK hS hP hD ls hl Q hQ
  have hown : s.vm.findClass "PictureFileModel" = some m.cls := hown
  have hH : Hold classes BW D (TY cB cI cJ) p s m c b_Md_valueOr 5 "PictureFileModel" := ⟨bw_ok, hx, hb, hml, hown, hK⟩
  have hw : ∀ {w : Cond}, w ∈ BW → w.before ([.ref h0, .int p0, .int p1, .long p2] : List Value).toArray s = true := fun h => Wd.at bw_ok hK.2 h
  have hl : lv_has ls 5 [(0, .ref h0), (1, .int p0), (2, .int p1), (3, .long p2)] := hl
  unfold G_Md_valueOr at hG
  refine lv_aload_n hx hb d_Md_valueOr_0 rfl (lv_at hl 0 rfl) ?_
  refine va_get (D := D) (ci := 7) (C := R_Md) (T := F_Md) (N := 30) hx hb (kl_Md hK.2) (fun _ h => h) hown hK.1 hP 0 rfl rfl 29 (by decide) (hw kw_387) (fun _ h9 => h9) rfl d_Md_valueOr_1 ?_
  refine lv_iload_n hx hb d_Md_valueOr_4 rfl (lv_at hl 1 rfl) ?_
  obtain ⟨g_1, hG⟩ := hG
  refine va_iald hx hb hK.1 hP 8 1 rfl rfl (g_1) d_Md_valueOr_5 ?_
  refine lv_if_ge (tgt := 13) hx hb d_Md_valueOr_6 (by decide) (fun c_1 => ?_) (fun c_1 => ?_)
  · replace hG := gp_pos c_1 hG
    refine lv_aload_n hx hb d_Md_valueOr_13 rfl (lv_at hl 0 rfl) ?_
    refine lv_iload_n hx hb d_Md_valueOr_14 rfl (lv_at hl 1 rfl) ?_
    refine lv_iload_n hx hb d_Md_valueOr_15 rfl (lv_at hl 2 rfl) ?_
    have g_3 := hG
    refine ct_finP (ct_runV (n := 2) (C := R_Md) (b := h0) (As := [.int p0, .int p1]) (rest := []) hH (c_Md_value h0 h1 h2 h3 h4 h5 h6 h7 h8 md sz fr bf mp ml mn mf sp sl et p0 p1 g_3 _) ⟨cal_Md_value, ⟨Nat.le_of_ble_eq_true rfl, Nat.le_of_ble_eq_true rfl⟩, (Nat.le_of_ble_eq_true rfl), (Nat.le_of_ble_eq_true rfl)⟩ kw_388 kw_389 kw_316 kw_390 kw_391 (va_recv hK.1 hP (ci := 7) (q0 := 0) rfl rfl) (hP.sub (ws' := [(h0, .inr (7, [.int (md 0), .ref h1, .int sz, .int (md 1), .int (md 2), .int (md 3), .int (md 4), .int (md 5), .int (md 6), .int (md 7), .int (md 8), .int (md 9), .int (md 10), .int (md 11), .int (md 12), .int fr, .int (md 13), .ref h2, .ref h3, .int (md 14), .int (md 15), .ref h4, .ref h5, .ref h6, .ref h7, .int (md 16), .int (md 17), .int (md 18), .int (md 19), .ref h8])), (h1, .inl (cB, 65536, .inl bf)), (h2, .inl (cI, 512, .inl mp)), (h3, .inl (cI, 512, .inl ml)), (h4, .inl (cJ, 520, .inr (.inl mn))), (h5, .inl (cI, 41, .inl mf)), (h6, .inl (cI, 8192, .inl sp)), (h7, .inl (cI, 8192, .inl sl)), (h8, .inl (cI, 11, .inl et))]) [0, 1, 2, 3, 4, 5, 6, 7, 8] rfl) (hD.sub (ws' := [(h0, .inr (7, [.int (md 0), .ref h1, .int sz, .int (md 1), .int (md 2), .int (md 3), .int (md 4), .int (md 5), .int (md 6), .int (md 7), .int (md 8), .int (md 9), .int (md 10), .int (md 11), .int (md 12), .int fr, .int (md 13), .ref h2, .ref h3, .int (md 14), .int (md 15), .ref h4, .ref h5, .ref h6, .ref h7, .int (md 16), .int (md 17), .int (md 18), .int (md 19), .ref h8])), (h1, .inl (cB, 65536, .inl bf)), (h2, .inl (cI, 512, .inl mp)), (h3, .inl (cI, 512, .inl ml)), (h4, .inl (cJ, 520, .inr (.inl mn))), (h5, .inl (cI, 41, .inl mf)), (h6, .inl (cI, 8192, .inl sp)), (h7, .inl (cI, 8192, .inl sl)), (h8, .inl (cI, 11, .inl et))]) [0, 1, 2, 3, 4, 5, 6, 7, 8] rfl rfl) rfl hl.1 (Nat.le_of_ble_eq_true rfl) d_Md_valueOr_16) hP hS (fun H hP hS => ?_)
    refine W.eq (g2 := F0 m 19 ls [.long (M_Md_value md bf et p0 p1)]) rfl ?_
    have ef : M_Md_valueOr md bf et p0 p1 p2 = (M_Md_value md bf et p0 p1) := by unfold M_Md_valueOr; (try dsimp only); rw [if_pos c_1]
    exact ct_plret hx hb hr hlocks d_Md_valueOr_19 hQ hS (by rw [ef])
  · replace hG := gp_neg c_1 hG
    refine lv_lload_n hx hb d_Md_valueOr_9 rfl (lv_at hl 3 rfl) ?_
    refine lv_goto (tgt := 19) hx hb d_Md_valueOr_10 (by decide) ?_
    have ef : M_Md_valueOr md bf et p0 p1 p2 = p2 := by unfold M_Md_valueOr; (try dsimp only); rw [if_neg c_1]
    exact ct_plret hx hb hr hlocks d_Md_valueOr_19 hQ hS (by rw [ef])
set_option maxHeartbeats 4000000 in
set_option maxRecDepth 100000 in
theorem c_Md_entries {l : Launch} {D : va_G} {cB cI cJ : ClassId} (h0 h1 h2 h3 h4 h5 h6 h7 h8 : Nat) (md : Nat → Int32) (sz : Int32) (fr : Int32) (bf : Nat → Int32) (mp : Nat → Int32) (ml : Nat → Int32) (mn : Nat → Int64) (mf : Nat → Int32) (sp : Nat → Int32) (sl : Nat → Int32) (et : Nat → Int32) (p0 : Int32) (p1 : Int32) (hG : G_Md_entries md sz bf et p0 p1) : Ct classes BW l D (TY cB cI cJ) y_Md_entries b_Md_entries 8 (some .boolean) ({ frames := 4, cells := 0, slots := 0, locals := 99 } : Room) [.ref h0, .int p0, .int p1] [(h0, .inr (7, [.int (md 0), .ref h1, .int sz, .int (md 1), .int (md 2), .int (md 3), .int (md 4), .int (md 5), .int (md 6), .int (md 7), .int (md 8), .int (md 9), .int (md 10), .int (md 11), .int (md 12), .int fr, .int (md 13), .ref h2, .ref h3, .int (md 14), .int (md 15), .ref h4, .ref h5, .ref h6, .ref h7, .int (md 16), .int (md 17), .int (md 18), .int (md 19), .ref h8])), (h1, .inl (cB, 65536, .inl bf)), (h2, .inl (cI, 512, .inl mp)), (h3, .inl (cI, 512, .inl ml)), (h4, .inl (cJ, 520, .inr (.inl mn))), (h5, .inl (cI, 41, .inl mf)), (h6, .inl (cI, 8192, .inl sp)), (h7, .inl (cI, 8192, .inl sl)), (h8, .inl (cI, 11, .inl et))] (fun u : Int32 × (Nat → Int32) × (Nat → Int32) => u = M_Md_entries md sz bf et p0 p1 ∧ (u.1 = 0 ∨ u.1 = 1)) (fun u => some (.int u.1)) (fun u => [(h0, .inr (7, [.int (u.2.1 0), .ref h1, .int sz, .int (u.2.1 1), .int (u.2.1 2), .int (u.2.1 3), .int (u.2.1 4), .int (u.2.1 5), .int (u.2.1 6), .int (u.2.1 7), .int (u.2.1 8), .int (u.2.1 9), .int (u.2.1 10), .int (u.2.1 11), .int (u.2.1 12), .int fr, .int (u.2.1 13), .ref h2, .ref h3, .int (u.2.1 14), .int (u.2.1 15), .ref h4, .ref h5, .ref h6, .ref h7, .int (u.2.1 16), .int (u.2.1 17), .int (u.2.1 18), .int (u.2.1 19), .ref h8])), (h1, .inl (cB, 65536, .inl bf)), (h2, .inl (cI, 512, .inl mp)), (h3, .inl (cI, 512, .inl ml)), (h4, .inl (cJ, 520, .inr (.inl mn))), (h5, .inl (cI, 41, .inl mf)), (h6, .inl (cI, 8192, .inl sp)), (h7, .inl (cI, 8192, .inl sl)), (h8, .inl (cI, 11, .inl u.2.2))]) (0) (0) := by
  refine Ct.intro (by decide +kernel) (Nat.le_of_ble_eq_true rfl) ?_
  intro p e s m below meth c hx hb hr hml hlocks hnm hown hK A hAe hA hS hP hD ls hl Q hQ
  have hown : s.vm.findClass "PictureFileModel" = some m.cls := hown
  have hH : Hold classes BW D (TY cB cI cJ) p s m c b_Md_entries 8 "PictureFileModel" := ⟨bw_ok, hx, hb, hml, hown, hK⟩
  have hw : ∀ {w : Cond}, w ∈ BW → w.before ([.ref h0, .int p0, .int p1] : List Value).toArray s = true := fun h => Wd.at bw_ok hK.2 h
  have hl : lv_has ls 8 [(0, .ref h0), (1, .int p0), (2, .int p1)] := hl
  unfold G_Md_entries at hG
  have LP33 : ∀ (n : Nat) (v3 : Int32) (v4 : Int32) (v5 : Int32) (mdL : (Nat → Int32)) (etL : (Nat → Int32)) (H : Heap) (locs : List Loc) (ls : Array Slot), GL_Md_entries_33 sz bf p0 p1 n v3 v4 v5 mdL etL → M_Md_entries md sz bf et p0 p1 = L_Md_entries_33 sz bf p0 p1 n v3 v4 v5 mdL etL → va_P D classes [(h0, .inr (7, [.int (mdL 0), .ref h1, .int sz, .int (mdL 1), .int (mdL 2), .int (mdL 3), .int (mdL 4), .int (mdL 5), .int (mdL 6), .int (mdL 7), .int (mdL 8), .int (mdL 9), .int (mdL 10), .int (mdL 11), .int (mdL 12), .int fr, .int (mdL 13), .ref h2, .ref h3, .int (mdL 14), .int (mdL 15), .ref h4, .ref h5, .ref h6, .ref h7, .int (mdL 16), .int (mdL 17), .int (mdL 18), .int (mdL 19), .ref h8])), (h1, .inl (cB, 65536, .inl bf)), (h2, .inl (cI, 512, .inl mp)), (h3, .inl (cI, 512, .inl ml)), (h4, .inl (cJ, 520, .inr (.inl mn))), (h5, .inl (cI, 41, .inl mf)), (h6, .inl (cI, 8192, .inl sp)), (h7, .inl (cI, 8192, .inl sl)), (h8, .inl (cI, 11, .inl etL))] H → va_D A [(h0, .inr (7, [.int (mdL 0), .ref h1, .int sz, .int (mdL 1), .int (mdL 2), .int (mdL 3), .int (mdL 4), .int (mdL 5), .int (mdL 6), .int (mdL 7), .int (mdL 8), .int (mdL 9), .int (mdL 10), .int (mdL 11), .int (mdL 12), .int fr, .int (mdL 13), .ref h2, .ref h3, .int (mdL 14), .int (mdL 15), .ref h4, .ref h5, .ref h6, .ref h7, .int (mdL 16), .int (mdL 17), .int (mdL 18), .int (mdL 19), .ref h8])), (h1, .inl (cB, 65536, .inl bf)), (h2, .inl (cI, 512, .inl mp)), (h3, .inl (cI, 512, .inl ml)), (h4, .inl (cJ, 520, .inr (.inl mn))), (h5, .inl (cI, 41, .inl mf)), (h6, .inl (cI, 8192, .inl sp)), (h7, .inl (cI, 8192, .inl sl)), (h8, .inl (cI, 11, .inl etL))] → va_S A s.heap H locs → lv_has ls 8 [(0, .ref h0), (1, .int p0), (2, .int p1), (3, .int v3), (4, .int v4), (5, .int v5)] → W p l e ({ frames := 4, cells := 0, slots := 0, locals := 99 } : Room) s m ([.ref h0, .int p0, .int p1] : List Value).toArray below meth c H locs 0 0 Q (F0 m 33 ls []) := by
    intro n
    induction n with
    | zero => intro v3 v4 v5 mdL etL H locs ls hG hM hP hD hS hl; rw [GL_Md_entries_33] at hG; exact hG.elim
    | succ n ih =>
      intro v3 v4 v5 mdL etL H locs ls hG hM hP hD hS hl
      rw [GL_Md_entries_33] at hG
      refine lv_iload hx hb d_Md_entries_33 (lv_at hl 5 rfl) ?_
      refine lv_iload hx hb d_Md_entries_35 (lv_at hl 4 rfl) ?_
      refine lv_icmp_ge (tgt := 118) hx hb d_Md_entries_37 (by decide) (fun c_1 => ?_) (fun c_1 => ?_)
      · replace hG := gp_pos c_1 hG
        refine lv_iconst (v := 1) hx hb d_Md_entries_118 (by decide) ?_
        have ef : M_Md_entries md sz bf et p0 p1 = (1, mdL, etL) := by rw [hM, L_Md_entries_33]; (try dsimp only); rw [if_pos c_1]
        exact ct_iret hx hb hr (rfl) hlocks d_Md_entries_119 ⟨Nat.zero_le _, Nat.zero_le _⟩ hQ hAe hS (1, mdL, etL) rfl ⟨ef.symm, (Or.inr rfl)⟩ (hP.sub [0, 1, 2, 3, 4, 5, 6, 7, 8] rfl) (hD.sub [0, 1, 2, 3, 4, 5, 6, 7, 8] rfl rfl)
      · replace hG := gp_neg c_1 hG
        refine lv_iload_n hx hb d_Md_entries_40 rfl (lv_at hl 2 rfl) ?_
        refine lv_iconst (v := 2) hx hb d_Md_entries_41 (by decide) ?_
        refine lv_iadd hx hb d_Md_entries_42 ?_
        refine lv_bipush (v := 12) hx hb d_Md_entries_43 (by decide) ?_
        refine lv_iload hx hb d_Md_entries_45 (lv_at hl 5 rfl) ?_
        refine lv_imul hx hb d_Md_entries_47 ?_
        refine lv_iadd hx hb d_Md_entries_48 ?_
        refine lv_topi (fun y1 e1 => ?_)
        replace hG := hG y1 e1
        refine lv_istore (lv' := [(6, .int y1), (0, .ref h0), (1, .int p0), (2, .int p1), (3, .int v3), (4, .int v4), (5, .int v5)]) hx hb d_Md_entries_49 hl (by decide) rfl (fun ls hl => ?_)
        refine lv_aload_n hx hb d_Md_entries_51 rfl (lv_at hl 1 rfl) ?_
        refine lv_iload hx hb d_Md_entries_52 (lv_at hl 0 rfl) ?_
        obtain ⟨g_4, hG⟩ := hG
        refine ct_finP (ct_runV (n := 1) (C := R_Md) (b := h0) (As := [.int y1]) (rest := []) hH (c_Md_readTwo h0 h1 h2 h3 h4 h5 h6 h7 h8 mdL sz fr bf mp ml mn mf sp sl etL y1 g_4 _) ⟨cal_Md_readTwo, ⟨Nat.le_of_ble_eq_true rfl, Nat.le_of_ble_eq_true rfl⟩, (Nat.le_of_ble_eq_true rfl), (Nat.le_of_ble_eq_true rfl)⟩ kw_362 kw_363 kw_316 kw_364 kw_365 (va_recv hK.1 hP (ci := 7) (q0 := 0) rfl rfl) (hP.sub (ws' := [(h0, .inr (7, [.int (mdL 0), .ref h1, .int sz, .int (mdL 1), .int (mdL 2), .int (mdL 3), .int (mdL 4), .int (mdL 5), .int (mdL 6), .int (mdL 7), .int (mdL 8), .int (mdL 9), .int (mdL 10), .int (mdL 11), .int (mdL 12), .int fr, .int (mdL 13), .ref h2, .ref h3, .int (mdL 14), .int (mdL 15), .ref h4, .ref h5, .ref h6, .ref h7, .int (mdL 16), .int (mdL 17), .int (mdL 18), .int (mdL 19), .ref h8])), (h1, .inl (cB, 65536, .inl bf)), (h2, .inl (cI, 512, .inl mp)), (h3, .inl (cI, 512, .inl ml)), (h4, .inl (cJ, 520, .inr (.inl mn))), (h5, .inl (cI, 41, .inl mf)), (h6, .inl (cI, 8192, .inl sp)), (h7, .inl (cI, 8192, .inl sl)), (h8, .inl (cI, 11, .inl etL))]) [0, 1, 2, 3, 4, 5, 6, 7, 8] rfl) (hD.sub (ws' := [(h0, .inr (7, [.int (mdL 0), .ref h1, .int sz, .int (mdL 1), .int (mdL 2), .int (mdL 3), .int (mdL 4), .int (mdL 5), .int (mdL 6), .int (mdL 7), .int (mdL 8), .int (mdL 9), .int (mdL 10), .int (mdL 11), .int (mdL 12), .int fr, .int (mdL 13), .ref h2, .ref h3, .int (mdL 14), .int (mdL 15), .ref h4, .ref h5, .ref h6, .ref h7, .int (mdL 16), .int (mdL 17), .int (mdL 18), .int (mdL 19), .ref h8])), (h1, .inl (cB, 65536, .inl bf)), (h2, .inl (cI, 512, .inl mp)), (h3, .inl (cI, 512, .inl ml)), (h4, .inl (cJ, 520, .inr (.inl mn))), (h5, .inl (cI, 41, .inl mf)), (h6, .inl (cI, 8192, .inl sp)), (h7, .inl (cI, 8192, .inl sl)), (h8, .inl (cI, 11, .inl etL))]) [0, 1, 2, 3, 4, 5, 6, 7, 8] rfl rfl) rfl hl.1 (Nat.le_of_ble_eq_true rfl) d_Md_entries_54) hP hS (fun H hP hS => ?_)
        refine W.eq (g2 := F0 m 57 ls [.int (M_Md_readTwo mdL bf y1)]) rfl ?_
        refine lv_topi (fun y2 e2 => ?_)
        replace hG := hG y2 e2
        refine lv_istore (lv' := [(7, .int y2), (6, .int y1), (0, .ref h0), (1, .int p0), (2, .int p1), (3, .int v3), (4, .int v4), (5, .int v5)]) hx hb d_Md_entries_57 hl (by decide) rfl (fun ls hl => ?_)
        refine lv_iload hx hb d_Md_entries_59 (lv_at hl 0 rfl) ?_
        refine lv_iload_n hx hb d_Md_entries_61 rfl (lv_at hl 5 rfl) ?_
        refine lv_icmp_gt (tgt := 75) hx hb d_Md_entries_62 (by decide) (fun c_2 => ?_) (fun c_2 => ?_)
        · replace hG := gp_pos c_2 hG
          refine lv_iload hx hb d_Md_entries_75 (lv_at hl 0 rfl) ?_
          refine lv_istore_n (lv' := [(3, .int y2), (7, .int y2), (6, .int y1), (0, .ref h0), (1, .int p0), (2, .int p1), (4, .int v4), (5, .int v5)]) hx hb d_Md_entries_77 rfl hl (by decide) rfl (fun ls hl => ?_)
          refine lv_iload hx hb d_Md_entries_78 (lv_at hl 1 rfl) ?_
          refine ct_finP (ct_runS (n := 1) (As := [.int y2]) (rest := []) hH (c_Md_known y2 _) ⟨cal_Md_known, ⟨Nat.le_of_ble_eq_true rfl, Nat.le_of_ble_eq_true rfl⟩, (Nat.le_of_ble_eq_true rfl), (Nat.le_of_ble_eq_true rfl)⟩ kw_384 kw_385 kw_316 kw_386 (hP.sub (ws' := []) [] rfl) (hD.sub (ws' := []) [] rfl rfl) rfl hl.1 (Nat.le_of_ble_eq_true rfl) d_Md_entries_80) hP hS (fun H hP hS => ?_)
          refine W.eq (g2 := F0 m 83 ls [.int (M_Md_known y2)]) rfl ?_
          refine lv_if_lt (tgt := 112) hx hb d_Md_entries_83 (by decide) (fun c_3 => ?_) (fun c_3 => ?_)
          · replace hG := gp_pos c_3 hG
            refine lv_iinc (v := (v5 + 1)) (lv' := [(5, .int (v5 + 1)), (3, .int y2), (7, .int y2), (6, .int y1), (0, .ref h0), (1, .int p0), (2, .int p1), (4, .int v4)]) hx hb d_Md_entries_112 hl (k := 7) rfl rfl (by decide) rfl (fun ls hl => ?_)
            refine lv_goto (tgt := 33) hx hb d_Md_entries_115 (by decide) ?_
            exact ih y2 v4 (v5 + 1) mdL etL H locs ls (hG) (by rw [hM, L_Md_entries_33]; (try dsimp only); rw [if_neg c_1]; (try rw [← e1]); (try rw [← e2]); rw [if_pos c_2]; rw [if_pos c_3])  (hP.sub [0, 1, 2, 3, 4, 5, 6, 7, 8] rfl) (hD.sub [0, 1, 2, 3, 4, 5, 6, 7, 8] rfl rfl) hS (lv_sub hl [4, 5, 6, 1, 7, 0] rfl)
          · replace hG := gp_neg c_3 hG
            refine lv_aload_n hx hb d_Md_entries_86 rfl (lv_at hl 3 rfl) ?_
            refine lv_iload_n hx hb d_Md_entries_87 rfl (lv_at hl 4 rfl) ?_
            refine lv_iload hx hb d_Md_entries_88 (lv_at hl 2 rfl) ?_
            refine lv_iload hx hb d_Md_entries_90 (lv_at hl 1 rfl) ?_
            obtain ⟨g_9, hG⟩ := hG
            refine ct_fin (wr := []) (ct_runV (n := 3) (C := R_Md) (b := h0) (As := [.int p0, .int y1, .int y2]) (rest := []) hH (c_Md_sound h0 h1 h2 h3 h4 h5 h6 h7 h8 mdL sz fr bf mp ml mn mf sp sl etL p0 y1 y2 g_9 _) ⟨cal_Md_sound, ⟨Nat.le_of_ble_eq_true rfl, Nat.le_of_ble_eq_true rfl⟩, (Nat.le_of_ble_eq_true rfl), (Nat.le_of_ble_eq_true rfl)⟩ kw_392 kw_393 kw_316 kw_394 kw_395 (va_recv hK.1 hP (ci := 7) (q0 := 0) rfl rfl) (hP.sub (ws' := [(h0, .inr (7, [.int (mdL 0), .ref h1, .int sz, .int (mdL 1), .int (mdL 2), .int (mdL 3), .int (mdL 4), .int (mdL 5), .int (mdL 6), .int (mdL 7), .int (mdL 8), .int (mdL 9), .int (mdL 10), .int (mdL 11), .int (mdL 12), .int fr, .int (mdL 13), .ref h2, .ref h3, .int (mdL 14), .int (mdL 15), .ref h4, .ref h5, .ref h6, .ref h7, .int (mdL 16), .int (mdL 17), .int (mdL 18), .int (mdL 19), .ref h8])), (h1, .inl (cB, 65536, .inl bf)), (h2, .inl (cI, 512, .inl mp)), (h3, .inl (cI, 512, .inl ml)), (h4, .inl (cJ, 520, .inr (.inl mn))), (h5, .inl (cI, 41, .inl mf)), (h6, .inl (cI, 8192, .inl sp)), (h7, .inl (cI, 8192, .inl sl)), (h8, .inl (cI, 11, .inl etL))]) [0, 1, 2, 3, 4, 5, 6, 7, 8] rfl) (hD.sub (ws' := [(h0, .inr (7, [.int (mdL 0), .ref h1, .int sz, .int (mdL 1), .int (mdL 2), .int (mdL 3), .int (mdL 4), .int (mdL 5), .int (mdL 6), .int (mdL 7), .int (mdL 8), .int (mdL 9), .int (mdL 10), .int (mdL 11), .int (mdL 12), .int fr, .int (mdL 13), .ref h2, .ref h3, .int (mdL 14), .int (mdL 15), .ref h4, .ref h5, .ref h6, .ref h7, .int (mdL 16), .int (mdL 17), .int (mdL 18), .int (mdL 19), .ref h8])), (h1, .inl (cB, 65536, .inl bf)), (h2, .inl (cI, 512, .inl mp)), (h3, .inl (cI, 512, .inl ml)), (h4, .inl (cJ, 520, .inr (.inl mn))), (h5, .inl (cI, 41, .inl mf)), (h6, .inl (cI, 8192, .inl sp)), (h7, .inl (cI, 8192, .inl sl)), (h8, .inl (cI, 11, .inl etL))]) [0, 1, 2, 3, 4, 5, 6, 7, 8] rfl rfl) rfl hl.1 (Nat.le_of_ble_eq_true rfl) d_Md_entries_92) hP hD hS hA [0, 1, 2, 3, 4, 5, 6, 7, 8] [] rfl rfl rfl (by decide) (fun u H locs hp hP hD hS => ?_)
            obtain ⟨x3, rfl⟩ : ∃ z, z = u := ⟨_, rfl⟩
            obtain ⟨e3, bz3⟩ := hp
            try dsimp only at e3 bz3
            have hP : va_P D classes [(h0, .inr (7, [.int (x3.2 0), .ref h1, .int sz, .int (x3.2 1), .int (x3.2 2), .int (x3.2 3), .int (x3.2 4), .int (x3.2 5), .int (x3.2 6), .int (x3.2 7), .int (x3.2 8), .int (x3.2 9), .int (x3.2 10), .int (x3.2 11), .int (x3.2 12), .int fr, .int (x3.2 13), .ref h2, .ref h3, .int (x3.2 14), .int (x3.2 15), .ref h4, .ref h5, .ref h6, .ref h7, .int (x3.2 16), .int (x3.2 17), .int (x3.2 18), .int (x3.2 19), .ref h8])), (h1, .inl (cB, 65536, .inl bf)), (h2, .inl (cI, 512, .inl mp)), (h3, .inl (cI, 512, .inl ml)), (h4, .inl (cJ, 520, .inr (.inl mn))), (h5, .inl (cI, 41, .inl mf)), (h6, .inl (cI, 8192, .inl sp)), (h7, .inl (cI, 8192, .inl sl)), (h8, .inl (cI, 11, .inl etL))] H := hP
            have hD : va_D A [(h0, .inr (7, [.int (x3.2 0), .ref h1, .int sz, .int (x3.2 1), .int (x3.2 2), .int (x3.2 3), .int (x3.2 4), .int (x3.2 5), .int (x3.2 6), .int (x3.2 7), .int (x3.2 8), .int (x3.2 9), .int (x3.2 10), .int (x3.2 11), .int (x3.2 12), .int fr, .int (x3.2 13), .ref h2, .ref h3, .int (x3.2 14), .int (x3.2 15), .ref h4, .ref h5, .ref h6, .ref h7, .int (x3.2 16), .int (x3.2 17), .int (x3.2 18), .int (x3.2 19), .ref h8])), (h1, .inl (cB, 65536, .inl bf)), (h2, .inl (cI, 512, .inl mp)), (h3, .inl (cI, 512, .inl ml)), (h4, .inl (cJ, 520, .inr (.inl mn))), (h5, .inl (cI, 41, .inl mf)), (h6, .inl (cI, 8192, .inl sp)), (h7, .inl (cI, 8192, .inl sl)), (h8, .inl (cI, 11, .inl etL))] := hD
            replace hG := hG x3 e3
            refine W.eq (g2 := F0 m 95 ls [.int x3.1]) rfl ?_
            refine lv_if_ne (tgt := 100) hx hb d_Md_entries_95 (by decide) (fun c_4 => ?_) (fun c_4 => ?_)
            · replace hG := gp_neg c_4 hG
              refine lv_aload_n hx hb d_Md_entries_100 rfl (lv_at hl 3 rfl) ?_
              refine va_get (D := D) (ci := 7) (C := R_Md) (T := F_Md) (N := 30) hx hb (kl_Md hK.2) (fun _ h => h) hown hK.1 hP 0 rfl rfl 29 (by decide) (hw kw_387) (fun _ h9 => h9) rfl d_Md_entries_101 ?_
              refine lv_iload hx hb d_Md_entries_104 (lv_at hl 1 rfl) ?_
              refine ct_finP (ct_runS (n := 1) (As := [.int y2]) (rest := [.ref h8]) hH (c_Md_known y2 _) ⟨cal_Md_known, ⟨Nat.le_of_ble_eq_true rfl, Nat.le_of_ble_eq_true rfl⟩, (Nat.le_of_ble_eq_true rfl), (Nat.le_of_ble_eq_true rfl)⟩ kw_384 kw_385 kw_316 kw_386 (hP.sub (ws' := []) [] rfl) (hD.sub (ws' := []) [] rfl rfl) rfl hl.1 (Nat.le_of_ble_eq_true rfl) d_Md_entries_106) hP hS (fun H hP hS => ?_)
              refine W.eq (g2 := F0 m 109 ls [.int (M_Md_known y2), .ref h8]) rfl ?_
              refine lv_iload hx hb d_Md_entries_109 (lv_at hl 2 rfl) ?_
              obtain ⟨g_12, hG⟩ := hG
              refine va_iast hx hb hK.1 hP hD hS 8 1 rfl rfl (g_12) d_Md_entries_111 (fun H locs hP hD hS => ?_)
              have hP : va_P D classes [(h0, .inr (7, [.int (x3.2 0), .ref h1, .int sz, .int (x3.2 1), .int (x3.2 2), .int (x3.2 3), .int (x3.2 4), .int (x3.2 5), .int (x3.2 6), .int (x3.2 7), .int (x3.2 8), .int (x3.2 9), .int (x3.2 10), .int (x3.2 11), .int (x3.2 12), .int fr, .int (x3.2 13), .ref h2, .ref h3, .int (x3.2 14), .int (x3.2 15), .ref h4, .ref h5, .ref h6, .ref h7, .int (x3.2 16), .int (x3.2 17), .int (x3.2 18), .int (x3.2 19), .ref h8])), (h1, .inl (cB, 65536, .inl bf)), (h2, .inl (cI, 512, .inl mp)), (h3, .inl (cI, 512, .inl ml)), (h4, .inl (cJ, 520, .inr (.inl mn))), (h5, .inl (cI, 41, .inl mf)), (h6, .inl (cI, 8192, .inl sp)), (h7, .inl (cI, 8192, .inl sl)), (h8, .inl (cI, 11, .inl (upd etL (M_Md_known y2).toNatClampNeg y1)))] H := hP
              have hD : va_D A [(h0, .inr (7, [.int (x3.2 0), .ref h1, .int sz, .int (x3.2 1), .int (x3.2 2), .int (x3.2 3), .int (x3.2 4), .int (x3.2 5), .int (x3.2 6), .int (x3.2 7), .int (x3.2 8), .int (x3.2 9), .int (x3.2 10), .int (x3.2 11), .int (x3.2 12), .int fr, .int (x3.2 13), .ref h2, .ref h3, .int (x3.2 14), .int (x3.2 15), .ref h4, .ref h5, .ref h6, .ref h7, .int (x3.2 16), .int (x3.2 17), .int (x3.2 18), .int (x3.2 19), .ref h8])), (h1, .inl (cB, 65536, .inl bf)), (h2, .inl (cI, 512, .inl mp)), (h3, .inl (cI, 512, .inl ml)), (h4, .inl (cJ, 520, .inr (.inl mn))), (h5, .inl (cI, 41, .inl mf)), (h6, .inl (cI, 8192, .inl sp)), (h7, .inl (cI, 8192, .inl sl)), (h8, .inl (cI, 11, .inl (upd etL (M_Md_known y2).toNatClampNeg y1)))] := hD
              refine lv_iinc (v := (v5 + 1)) (lv' := [(5, .int (v5 + 1)), (3, .int y2), (7, .int y2), (6, .int y1), (0, .ref h0), (1, .int p0), (2, .int p1), (4, .int v4)]) hx hb d_Md_entries_112 hl (k := 7) rfl rfl (by decide) rfl (fun ls hl => ?_)
              refine lv_goto (tgt := 33) hx hb d_Md_entries_115 (by decide) ?_
              exact ih y2 v4 (v5 + 1) x3.2 (upd etL (M_Md_known y2).toNatClampNeg y1) H locs ls (hG) (by rw [hM, L_Md_entries_33]; (try dsimp only); rw [if_neg c_1]; (try rw [← e1]); (try rw [← e2]); rw [if_pos c_2]; rw [if_neg c_3]; (try rw [← e3]); rw [if_neg c_4])  (hP.sub [0, 1, 2, 3, 4, 5, 6, 7, 8] rfl) (hD.sub [0, 1, 2, 3, 4, 5, 6, 7, 8] rfl rfl) hS (lv_sub hl [4, 5, 6, 1, 7, 0] rfl)
            · replace hG := gp_pos c_4 hG
              refine lv_iconst (v := 0) hx hb d_Md_entries_98 (by decide) ?_
              have ef : M_Md_entries md sz bf et p0 p1 = (0, x3.2, etL) := by rw [hM, L_Md_entries_33]; (try dsimp only); rw [if_neg c_1]; (try rw [← e1]); (try rw [← e2]); rw [if_pos c_2]; rw [if_neg c_3]; (try rw [← e3]); rw [if_pos c_4]
              exact ct_iret hx hb hr (rfl) hlocks d_Md_entries_99 ⟨Nat.zero_le _, Nat.zero_le _⟩ hQ hAe hS (0, x3.2, etL) rfl ⟨ef.symm, (Or.inl rfl)⟩ (hP.sub [0, 1, 2, 3, 4, 5, 6, 7, 8] rfl) (hD.sub [0, 1, 2, 3, 4, 5, 6, 7, 8] rfl rfl)
        · replace hG := gp_neg c_2 hG
          refine lv_aload_n hx hb d_Md_entries_65 rfl (lv_at hl 2 rfl) ?_
          refine lv_iconst (v := 3) hx hb d_Md_entries_66 (by decide) ?_
          refine lv_iload_n hx hb d_Md_entries_67 rfl (lv_at hl 3 rfl) ?_
          refine lv_iload hx hb d_Md_entries_68 (lv_at hl 0 rfl) ?_
          refine lv_iconst (v := 0) hx hb d_Md_entries_70 (by decide) ?_
          refine ct_fin (wr := []) (ct_runV (n := 4) (C := R_Md) (b := h0) (As := [.int 3, .int p0, .int y2, .int 0]) (rest := []) hH (c_Md_wrong h0 h1 h2 h3 h4 h5 h6 h7 h8 mdL sz fr bf mp ml mn mf sp sl etL 3 p0 y2 0 _) ⟨cal_Md_wrong, ⟨Nat.le_of_ble_eq_true rfl, Nat.le_of_ble_eq_true rfl⟩, (Nat.le_of_ble_eq_true rfl), (Nat.le_of_ble_eq_true rfl)⟩ kw_371 kw_372 kw_316 kw_373 kw_374 (va_recv hK.1 hP (ci := 7) (q0 := 0) rfl rfl) (hP.sub (ws' := [(h0, .inr (7, [.int (mdL 0), .ref h1, .int sz, .int (mdL 1), .int (mdL 2), .int (mdL 3), .int (mdL 4), .int (mdL 5), .int (mdL 6), .int (mdL 7), .int (mdL 8), .int (mdL 9), .int (mdL 10), .int (mdL 11), .int (mdL 12), .int fr, .int (mdL 13), .ref h2, .ref h3, .int (mdL 14), .int (mdL 15), .ref h4, .ref h5, .ref h6, .ref h7, .int (mdL 16), .int (mdL 17), .int (mdL 18), .int (mdL 19), .ref h8])), (h1, .inl (cB, 65536, .inl bf)), (h2, .inl (cI, 512, .inl mp)), (h3, .inl (cI, 512, .inl ml)), (h4, .inl (cJ, 520, .inr (.inl mn))), (h5, .inl (cI, 41, .inl mf)), (h6, .inl (cI, 8192, .inl sp)), (h7, .inl (cI, 8192, .inl sl)), (h8, .inl (cI, 11, .inl etL))]) [0, 1, 2, 3, 4, 5, 6, 7, 8] rfl) (hD.sub (ws' := [(h0, .inr (7, [.int (mdL 0), .ref h1, .int sz, .int (mdL 1), .int (mdL 2), .int (mdL 3), .int (mdL 4), .int (mdL 5), .int (mdL 6), .int (mdL 7), .int (mdL 8), .int (mdL 9), .int (mdL 10), .int (mdL 11), .int (mdL 12), .int fr, .int (mdL 13), .ref h2, .ref h3, .int (mdL 14), .int (mdL 15), .ref h4, .ref h5, .ref h6, .ref h7, .int (mdL 16), .int (mdL 17), .int (mdL 18), .int (mdL 19), .ref h8])), (h1, .inl (cB, 65536, .inl bf)), (h2, .inl (cI, 512, .inl mp)), (h3, .inl (cI, 512, .inl ml)), (h4, .inl (cJ, 520, .inr (.inl mn))), (h5, .inl (cI, 41, .inl mf)), (h6, .inl (cI, 8192, .inl sp)), (h7, .inl (cI, 8192, .inl sl)), (h8, .inl (cI, 11, .inl etL))]) [0, 1, 2, 3, 4, 5, 6, 7, 8] rfl rfl) rfl hl.1 (Nat.le_of_ble_eq_true rfl) d_Md_entries_71) hP hD hS hA [0, 1, 2, 3, 4, 5, 6, 7, 8] [] rfl rfl rfl (by decide) (fun u H locs hp hP hD hS => ?_)
          obtain ⟨x4, rfl⟩ : ∃ z, z = u := ⟨_, rfl⟩
          obtain ⟨e4, bz4⟩ := hp
          try dsimp only at e4 bz4
          have hP : va_P D classes [(h0, .inr (7, [.int (x4.2 0), .ref h1, .int sz, .int (x4.2 1), .int (x4.2 2), .int (x4.2 3), .int (x4.2 4), .int (x4.2 5), .int (x4.2 6), .int (x4.2 7), .int (x4.2 8), .int (x4.2 9), .int (x4.2 10), .int (x4.2 11), .int (x4.2 12), .int fr, .int (x4.2 13), .ref h2, .ref h3, .int (x4.2 14), .int (x4.2 15), .ref h4, .ref h5, .ref h6, .ref h7, .int (x4.2 16), .int (x4.2 17), .int (x4.2 18), .int (x4.2 19), .ref h8])), (h1, .inl (cB, 65536, .inl bf)), (h2, .inl (cI, 512, .inl mp)), (h3, .inl (cI, 512, .inl ml)), (h4, .inl (cJ, 520, .inr (.inl mn))), (h5, .inl (cI, 41, .inl mf)), (h6, .inl (cI, 8192, .inl sp)), (h7, .inl (cI, 8192, .inl sl)), (h8, .inl (cI, 11, .inl etL))] H := hP
          have hD : va_D A [(h0, .inr (7, [.int (x4.2 0), .ref h1, .int sz, .int (x4.2 1), .int (x4.2 2), .int (x4.2 3), .int (x4.2 4), .int (x4.2 5), .int (x4.2 6), .int (x4.2 7), .int (x4.2 8), .int (x4.2 9), .int (x4.2 10), .int (x4.2 11), .int (x4.2 12), .int fr, .int (x4.2 13), .ref h2, .ref h3, .int (x4.2 14), .int (x4.2 15), .ref h4, .ref h5, .ref h6, .ref h7, .int (x4.2 16), .int (x4.2 17), .int (x4.2 18), .int (x4.2 19), .ref h8])), (h1, .inl (cB, 65536, .inl bf)), (h2, .inl (cI, 512, .inl mp)), (h3, .inl (cI, 512, .inl ml)), (h4, .inl (cJ, 520, .inr (.inl mn))), (h5, .inl (cI, 41, .inl mf)), (h6, .inl (cI, 8192, .inl sp)), (h7, .inl (cI, 8192, .inl sl)), (h8, .inl (cI, 11, .inl etL))] := hD
          refine W.eq (g2 := F0 m 74 ls [.int x4.1]) rfl ?_
          have ef : M_Md_entries md sz bf et p0 p1 = (x4.1, x4.2, etL) := by rw [hM, L_Md_entries_33]; (try dsimp only); rw [if_neg c_1]; (try rw [← e1]); (try rw [← e2]); rw [if_neg c_2]; (try rw [← e4])
          exact ct_iret hx hb hr (nb01 bz4) hlocks d_Md_entries_74 ⟨Nat.zero_le _, Nat.zero_le _⟩ hQ hAe hS (x4.1, x4.2, etL) rfl ⟨ef.symm, bz4⟩ (hP.sub [0, 1, 2, 3, 4, 5, 6, 7, 8] rfl) (hD.sub [0, 1, 2, 3, 4, 5, 6, 7, 8] rfl rfl)
  refine lv_iconst (v := 0) hx hb d_Md_entries_0 (by decide) ?_
  refine lv_istore_n (lv' := [(3, .int 0), (0, .ref h0), (1, .int p0), (2, .int p1)]) hx hb d_Md_entries_1 rfl hl (by decide) rfl (fun ls hl => ?_)
  have LP2 : ∀ (n : Nat) (v3 : Int32) (etL : (Nat → Int32)) (H : Heap) (locs : List Loc) (ls : Array Slot), GL_Md_entries_2 md sz bf p0 p1 n v3 etL → M_Md_entries md sz bf et p0 p1 = L_Md_entries_2 md sz bf p0 p1 n v3 etL → va_P D classes [(h0, .inr (7, [.int (md 0), .ref h1, .int sz, .int (md 1), .int (md 2), .int (md 3), .int (md 4), .int (md 5), .int (md 6), .int (md 7), .int (md 8), .int (md 9), .int (md 10), .int (md 11), .int (md 12), .int fr, .int (md 13), .ref h2, .ref h3, .int (md 14), .int (md 15), .ref h4, .ref h5, .ref h6, .ref h7, .int (md 16), .int (md 17), .int (md 18), .int (md 19), .ref h8])), (h1, .inl (cB, 65536, .inl bf)), (h2, .inl (cI, 512, .inl mp)), (h3, .inl (cI, 512, .inl ml)), (h4, .inl (cJ, 520, .inr (.inl mn))), (h5, .inl (cI, 41, .inl mf)), (h6, .inl (cI, 8192, .inl sp)), (h7, .inl (cI, 8192, .inl sl)), (h8, .inl (cI, 11, .inl etL))] H → va_D A [(h0, .inr (7, [.int (md 0), .ref h1, .int sz, .int (md 1), .int (md 2), .int (md 3), .int (md 4), .int (md 5), .int (md 6), .int (md 7), .int (md 8), .int (md 9), .int (md 10), .int (md 11), .int (md 12), .int fr, .int (md 13), .ref h2, .ref h3, .int (md 14), .int (md 15), .ref h4, .ref h5, .ref h6, .ref h7, .int (md 16), .int (md 17), .int (md 18), .int (md 19), .ref h8])), (h1, .inl (cB, 65536, .inl bf)), (h2, .inl (cI, 512, .inl mp)), (h3, .inl (cI, 512, .inl ml)), (h4, .inl (cJ, 520, .inr (.inl mn))), (h5, .inl (cI, 41, .inl mf)), (h6, .inl (cI, 8192, .inl sp)), (h7, .inl (cI, 8192, .inl sl)), (h8, .inl (cI, 11, .inl etL))] → va_S A s.heap H locs → lv_has ls 8 [(0, .ref h0), (1, .int p0), (2, .int p1), (3, .int v3)] → W p l e ({ frames := 4, cells := 0, slots := 0, locals := 99 } : Room) s m ([.ref h0, .int p0, .int p1] : List Value).toArray below meth c H locs 0 0 Q (F0 m 2 ls []) := by
    intro n
    induction n with
    | zero => intro v3 etL H locs ls hG hM hP hD hS hl; rw [GL_Md_entries_2] at hG; exact hG.elim
    | succ n ih =>
      intro v3 etL H locs ls hG hM hP hD hS hl
      rw [GL_Md_entries_2] at hG
      refine lv_iload_n hx hb d_Md_entries_2 rfl (lv_at hl 3 rfl) ?_
      refine lv_bipush (v := 11) hx hb d_Md_entries_3 (by decide) ?_
      refine lv_icmp_ge (tgt := 21) hx hb d_Md_entries_5 (by decide) (fun c_5 => ?_) (fun c_5 => ?_)
      · replace hG := gp_pos c_5 hG
        refine lv_iconst (v := (-1)) hx hb d_Md_entries_21 (by decide) ?_
        refine lv_istore_n (lv' := [(3, .int (-1)), (0, .ref h0), (1, .int p0), (2, .int p1)]) hx hb d_Md_entries_22 rfl hl (by decide) rfl (fun ls hl => ?_)
        refine lv_aload_n hx hb d_Md_entries_23 rfl (lv_at hl 1 rfl) ?_
        refine lv_iload_n hx hb d_Md_entries_24 rfl (lv_at hl 3 rfl) ?_
        obtain ⟨g_17, hG⟩ := hG
        refine ct_finP (ct_runV (n := 1) (C := R_Md) (b := h0) (As := [.int p1]) (rest := []) hH (c_Md_readTwo h0 h1 h2 h3 h4 h5 h6 h7 h8 md sz fr bf mp ml mn mf sp sl etL p1 g_17 _) ⟨cal_Md_readTwo, ⟨Nat.le_of_ble_eq_true rfl, Nat.le_of_ble_eq_true rfl⟩, (Nat.le_of_ble_eq_true rfl), (Nat.le_of_ble_eq_true rfl)⟩ kw_362 kw_363 kw_316 kw_364 kw_365 (va_recv hK.1 hP (ci := 7) (q0 := 0) rfl rfl) (hP.sub (ws' := [(h0, .inr (7, [.int (md 0), .ref h1, .int sz, .int (md 1), .int (md 2), .int (md 3), .int (md 4), .int (md 5), .int (md 6), .int (md 7), .int (md 8), .int (md 9), .int (md 10), .int (md 11), .int (md 12), .int fr, .int (md 13), .ref h2, .ref h3, .int (md 14), .int (md 15), .ref h4, .ref h5, .ref h6, .ref h7, .int (md 16), .int (md 17), .int (md 18), .int (md 19), .ref h8])), (h1, .inl (cB, 65536, .inl bf)), (h2, .inl (cI, 512, .inl mp)), (h3, .inl (cI, 512, .inl ml)), (h4, .inl (cJ, 520, .inr (.inl mn))), (h5, .inl (cI, 41, .inl mf)), (h6, .inl (cI, 8192, .inl sp)), (h7, .inl (cI, 8192, .inl sl)), (h8, .inl (cI, 11, .inl etL))]) [0, 1, 2, 3, 4, 5, 6, 7, 8] rfl) (hD.sub (ws' := [(h0, .inr (7, [.int (md 0), .ref h1, .int sz, .int (md 1), .int (md 2), .int (md 3), .int (md 4), .int (md 5), .int (md 6), .int (md 7), .int (md 8), .int (md 9), .int (md 10), .int (md 11), .int (md 12), .int fr, .int (md 13), .ref h2, .ref h3, .int (md 14), .int (md 15), .ref h4, .ref h5, .ref h6, .ref h7, .int (md 16), .int (md 17), .int (md 18), .int (md 19), .ref h8])), (h1, .inl (cB, 65536, .inl bf)), (h2, .inl (cI, 512, .inl mp)), (h3, .inl (cI, 512, .inl ml)), (h4, .inl (cJ, 520, .inr (.inl mn))), (h5, .inl (cI, 41, .inl mf)), (h6, .inl (cI, 8192, .inl sp)), (h7, .inl (cI, 8192, .inl sl)), (h8, .inl (cI, 11, .inl etL))]) [0, 1, 2, 3, 4, 5, 6, 7, 8] rfl rfl) rfl hl.1 (Nat.le_of_ble_eq_true rfl) d_Md_entries_25) hP hS (fun H hP hS => ?_)
        refine W.eq (g2 := F0 m 28 ls [.int (M_Md_readTwo md bf p1)]) rfl ?_
        refine lv_topi (fun y5 e5 => ?_)
        replace hG := hG y5 e5
        refine lv_istore (lv' := [(4, .int y5), (3, .int (-1)), (0, .ref h0), (1, .int p0), (2, .int p1)]) hx hb d_Md_entries_28 hl (by decide) rfl (fun ls hl => ?_)
        refine lv_iconst (v := 0) hx hb d_Md_entries_30 (by decide) ?_
        refine lv_istore (lv' := [(5, .int 0), (4, .int y5), (3, .int (-1)), (0, .ref h0), (1, .int p0), (2, .int p1)]) hx hb d_Md_entries_31 hl (by decide) rfl (fun ls hl => ?_)
        exact LP33 ((y5.toInt - (0 : Int32).toInt).toNat + 1) (-1) y5 0 md etL _ _ _ hG (by rw [hM, L_Md_entries_2]; (try dsimp only); rw [if_pos c_5]; (try rw [← e5]))  (hP.sub [0, 1, 2, 3, 4, 5, 6, 7, 8] rfl) (hD.sub [0, 1, 2, 3, 4, 5, 6, 7, 8] rfl rfl) hS (lv_sub hl [3, 4, 5, 2, 1, 0] rfl)
      · replace hG := gp_neg c_5 hG
        refine lv_aload_n hx hb d_Md_entries_8 rfl (lv_at hl 0 rfl) ?_
        refine va_get (D := D) (ci := 7) (C := R_Md) (T := F_Md) (N := 30) hx hb (kl_Md hK.2) (fun _ h => h) hown hK.1 hP 0 rfl rfl 29 (by decide) (hw kw_387) (fun _ h9 => h9) rfl d_Md_entries_9 ?_
        refine lv_iload_n hx hb d_Md_entries_12 rfl (lv_at hl 3 rfl) ?_
        refine lv_iconst (v := (-1)) hx hb d_Md_entries_13 (by decide) ?_
        obtain ⟨g_20, hG⟩ := hG
        refine va_iast hx hb hK.1 hP hD hS 8 1 rfl rfl (g_20) d_Md_entries_14 (fun H locs hP hD hS => ?_)
        have hP : va_P D classes [(h0, .inr (7, [.int (md 0), .ref h1, .int sz, .int (md 1), .int (md 2), .int (md 3), .int (md 4), .int (md 5), .int (md 6), .int (md 7), .int (md 8), .int (md 9), .int (md 10), .int (md 11), .int (md 12), .int fr, .int (md 13), .ref h2, .ref h3, .int (md 14), .int (md 15), .ref h4, .ref h5, .ref h6, .ref h7, .int (md 16), .int (md 17), .int (md 18), .int (md 19), .ref h8])), (h1, .inl (cB, 65536, .inl bf)), (h2, .inl (cI, 512, .inl mp)), (h3, .inl (cI, 512, .inl ml)), (h4, .inl (cJ, 520, .inr (.inl mn))), (h5, .inl (cI, 41, .inl mf)), (h6, .inl (cI, 8192, .inl sp)), (h7, .inl (cI, 8192, .inl sl)), (h8, .inl (cI, 11, .inl (upd etL v3.toNatClampNeg (-1))))] H := hP
        have hD : va_D A [(h0, .inr (7, [.int (md 0), .ref h1, .int sz, .int (md 1), .int (md 2), .int (md 3), .int (md 4), .int (md 5), .int (md 6), .int (md 7), .int (md 8), .int (md 9), .int (md 10), .int (md 11), .int (md 12), .int fr, .int (md 13), .ref h2, .ref h3, .int (md 14), .int (md 15), .ref h4, .ref h5, .ref h6, .ref h7, .int (md 16), .int (md 17), .int (md 18), .int (md 19), .ref h8])), (h1, .inl (cB, 65536, .inl bf)), (h2, .inl (cI, 512, .inl mp)), (h3, .inl (cI, 512, .inl ml)), (h4, .inl (cJ, 520, .inr (.inl mn))), (h5, .inl (cI, 41, .inl mf)), (h6, .inl (cI, 8192, .inl sp)), (h7, .inl (cI, 8192, .inl sl)), (h8, .inl (cI, 11, .inl (upd etL v3.toNatClampNeg (-1))))] := hD
        refine lv_iinc (v := (v3 + 1)) (lv' := [(3, .int (v3 + 1)), (0, .ref h0), (1, .int p0), (2, .int p1)]) hx hb d_Md_entries_15 hl (k := 3) rfl rfl (by decide) rfl (fun ls hl => ?_)
        refine lv_goto (tgt := 2) hx hb d_Md_entries_18 (by decide) ?_
        exact ih (v3 + 1) (upd etL v3.toNatClampNeg (-1)) H locs ls (hG) (by rw [hM, L_Md_entries_2]; (try dsimp only); rw [if_neg c_5])  (hP.sub [0, 1, 2, 3, 4, 5, 6, 7, 8] rfl) (hD.sub [0, 1, 2, 3, 4, 5, 6, 7, 8] rfl rfl) hS (lv_sub hl [1, 2, 3, 0] rfl)
  exact LP2 (((11 : Int32).toInt - (0 : Int32).toInt).toNat + 1) 0 et _ _ _ hG (by rfl)  (hP.sub [0, 1, 2, 3, 4, 5, 6, 7, 8] rfl) (hD.sub [0, 1, 2, 3, 4, 5, 6, 7, 8] rfl rfl) hS (lv_sub hl [1, 2, 3, 0] rfl)
