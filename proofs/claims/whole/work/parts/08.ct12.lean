set_option maxHeartbeats 4000000 in
set_option maxRecDepth 100000 in
theorem c_Rd_wrongCount {l : Launch} {D : va_G} {cB cI cJ : ClassId} (h0 h1 h2 h3 h4 h5 h6 h7 h8 h9 h10 h11 : Nat) (rd : Nat → Int32) (ro : RowS) (ty : Nat → Int32) (ct : Nat → Int32) (pl : Nat → Int32) (nu : Nat → Int64) (rs : RowS) (fs : Nat → Int32) (hro : RowOK ro) (hrs : StOK 8192 rs) (p0 : Int32) : CtP classes BW l D (TY cB cI cJ) y_Rd_wrongCount b_Rd_wrongCount 2 (some .int) ({ frames := 1, cells := 0, slots := 0, locals := 22 } : Room) [.ref h0, .int p0] [(h0, .inr (5, [.ref h1, .ref h3, .ref h7, .ref h9, .ref h11, .int (rd 0), .int (rd 1), .int (rd 2), .int (rd 3), .int (rd 4), .int (rd 5), .int (rd 6)])), (h1, .inr (0, [.ref h2, .int ro.2.2])), (h2, .inl (cB, ro.1, .inl ro.2.1)), (h3, .inr (4, [.ref h1, .ref h4, .ref h5, .ref h6])), (h4, .inl (cI, 41, .inl ty)), (h5, .inl (cI, 41, .inl ct)), (h6, .inl (cI, 41, .inl pl)), (h7, .inr (3, [.ref h8])), (h8, .inl (cJ, 520, .inr (.inl nu))), (h9, .inr (1, [.int 8192, .ref h10, .int rs.2.2])), (h10, .inl (cI, rs.1, .inl rs.2.1)), (h11, .inl (cI, 40, .inl fs))] (some (.int (M_Rd_wrongCount ct rs p0))) := by
  refine CtP.intro (by decide +kernel) (Nat.le_of_ble_eq_true rfl) ?_
  intro p e s m below meth c hx hb hr hml hlocks hnm hown hK hS hP hD ls hl Q hQ
  have hown : s.vm.findClass "PictureFile$Reader" = some m.cls := hown
  have hH : Hold classes BW D (TY cB cI cJ) p s m c b_Rd_wrongCount 2 "PictureFile$Reader" := ⟨bw_ok, hx, hb, hml, hown, hK⟩
  have hw : ∀ {w : Cond}, w ∈ BW → w.before ([.ref h0, .int p0] : List Value).toArray s = true := fun h => Wd.at bw_ok hK.2 h
  have hl : lv_has ls 2 [(0, .ref h0), (1, .int p0)] := hl
  have bo0ro := RowOK.le hro
  have bo0rs := StOK.le hrs
  refine lv_aload_n hx hb d_Rd_wrongCount_0 rfl (lv_at hl 0 rfl) ?_
  refine va_get (D := D) (ci := 5) (C := R_Rd) (T := F_Rd) (N := 12) hx hb (kl_Rd hK.2) (fun _ h => h) hown hK.1 hP 0 rfl rfl 1 (by decide) (hw kw_205) (fun _ h9 => h9) rfl d_Rd_wrongCount_1 ?_
  refine lv_sipush (v := 273) hx hb d_Rd_wrongCount_4 (by decide) ?_
  refine ct_finP (ct_runVN (host := "PictureFile") (n := 1) (C := R_En) (b := h3) (As := [.int 273]) (rest := []) hH (c_En_countOf h3 h1 h2 h4 h5 h6 ro ty ct pl hro 273 _) ⟨cal_En_countOf, ⟨Nat.le_of_ble_eq_true rfl, Nat.le_of_ble_eq_true rfl⟩, (Nat.le_of_ble_eq_true rfl), (Nat.le_of_ble_eq_true rfl)⟩ kw_239 kw_161 kw_134 kw_162 kw_163 (va_recv hK.1 hP (ci := 4) (q0 := 3) rfl rfl) (hP.sub (ws' := [(h3, .inr (4, [.ref h1, .ref h4, .ref h5, .ref h6])), (h1, .inr (0, [.ref h2, .int ro.2.2])), (h2, .inl (cB, ro.1, .inl ro.2.1)), (h4, .inl (cI, 41, .inl ty)), (h5, .inl (cI, 41, .inl ct)), (h6, .inl (cI, 41, .inl pl))]) [3, 1, 2, 4, 5, 6] rfl) (hD.sub (ws' := [(h3, .inr (4, [.ref h1, .ref h4, .ref h5, .ref h6])), (h1, .inr (0, [.ref h2, .int ro.2.2])), (h2, .inl (cB, ro.1, .inl ro.2.1)), (h4, .inl (cI, 41, .inl ty)), (h5, .inl (cI, 41, .inl ct)), (h6, .inl (cI, 41, .inl pl))]) [3, 1, 2, 4, 5, 6] rfl rfl) rfl hl.1 (Nat.le_of_ble_eq_true rfl) d_Rd_wrongCount_7) hP hS (fun H hP hS => ?_)
  refine W.eq (g2 := F0 m 10 ls [.int (M_En_countOf ct 273)]) rfl ?_
  refine lv_iload_n hx hb d_Rd_wrongCount_10 rfl (lv_at hl 1 rfl) ?_
  refine lv_icmp_eq (tgt := 18) hx hb d_Rd_wrongCount_11 (by decide) (fun c_1 => ?_) (fun c_1 => ?_)
  · refine lv_aload_n hx hb d_Rd_wrongCount_18 rfl (lv_at hl 0 rfl) ?_
    refine va_get (D := D) (ci := 5) (C := R_Rd) (T := F_Rd) (N := 12) hx hb (kl_Rd hK.2) (fun _ h => h) hown hK.1 hP 0 rfl rfl 1 (by decide) (hw kw_205) (fun _ h9 => h9) rfl d_Rd_wrongCount_19 ?_
    refine lv_sipush (v := 279) hx hb d_Rd_wrongCount_22 (by decide) ?_
    refine ct_finP (ct_runVN (host := "PictureFile") (n := 1) (C := R_En) (b := h3) (As := [.int 279]) (rest := []) hH (c_En_countOf h3 h1 h2 h4 h5 h6 ro ty ct pl hro 279 _) ⟨cal_En_countOf, ⟨Nat.le_of_ble_eq_true rfl, Nat.le_of_ble_eq_true rfl⟩, (Nat.le_of_ble_eq_true rfl), (Nat.le_of_ble_eq_true rfl)⟩ kw_239 kw_161 kw_134 kw_162 kw_163 (va_recv hK.1 hP (ci := 4) (q0 := 3) rfl rfl) (hP.sub (ws' := [(h3, .inr (4, [.ref h1, .ref h4, .ref h5, .ref h6])), (h1, .inr (0, [.ref h2, .int ro.2.2])), (h2, .inl (cB, ro.1, .inl ro.2.1)), (h4, .inl (cI, 41, .inl ty)), (h5, .inl (cI, 41, .inl ct)), (h6, .inl (cI, 41, .inl pl))]) [3, 1, 2, 4, 5, 6] rfl) (hD.sub (ws' := [(h3, .inr (4, [.ref h1, .ref h4, .ref h5, .ref h6])), (h1, .inr (0, [.ref h2, .int ro.2.2])), (h2, .inl (cB, ro.1, .inl ro.2.1)), (h4, .inl (cI, 41, .inl ty)), (h5, .inl (cI, 41, .inl ct)), (h6, .inl (cI, 41, .inl pl))]) [3, 1, 2, 4, 5, 6] rfl rfl) rfl hl.1 (Nat.le_of_ble_eq_true rfl) d_Rd_wrongCount_25) hP hS (fun H hP hS => ?_)
    refine W.eq (g2 := F0 m 28 ls [.int (M_En_countOf ct 279)]) rfl ?_
    refine lv_iload_n hx hb d_Rd_wrongCount_28 rfl (lv_at hl 1 rfl) ?_
    refine lv_icmp_eq (tgt := 36) hx hb d_Rd_wrongCount_29 (by decide) (fun c_2 => ?_) (fun c_2 => ?_)
    · refine lv_aload_n hx hb d_Rd_wrongCount_36 rfl (lv_at hl 0 rfl) ?_
      refine va_get (D := D) (ci := 5) (C := R_Rd) (T := F_Rd) (N := 12) hx hb (kl_Rd hK.2) (fun _ h => h) hown hK.1 hP 0 rfl rfl 3 (by decide) (hw kw_173) (fun _ h9 => h9) rfl d_Rd_wrongCount_37 ?_
      refine va_getN (host := "PictureFile") (D := D) (ci := 1) (C := R_St) (T := F_St) (N := 3) hx hb (kl_St hK.2) (fun _ h => h) hown hK.1 hP 9 rfl rfl 2 (by decide) (hw kw_181) (fun _ h9 => h9) rfl d_Rd_wrongCount_40 ?_
      refine lv_iload_n hx hb d_Rd_wrongCount_43 rfl (lv_at hl 1 rfl) ?_
      refine lv_iadd hx hb d_Rd_wrongCount_44 ?_
      refine lv_sipush (v := 8192) hx hb d_Rd_wrongCount_45 (by decide) ?_
      refine lv_icmp_le (tgt := 57) hx hb d_Rd_wrongCount_48 (by decide) (fun c_3 => ?_) (fun c_3 => ?_)
      · refine lv_iconst (v := 0) hx hb d_Rd_wrongCount_57 (by decide) ?_
        have ef : M_Rd_wrongCount ct rs p0 = 0 := by unfold M_Rd_wrongCount; (try dsimp only); rw [if_pos c_1]; rw [if_pos c_2]; rw [if_pos c_3]
        exact ct_piret hx hb hr rfl hlocks d_Rd_wrongCount_58 hQ hS (by rw [ef])
      · refine lv_sipush (v := 278) hx hb d_Rd_wrongCount_51 (by decide) ?_
        refine lv_goto (tgt := 58) hx hb d_Rd_wrongCount_54 (by decide) ?_
        have ef : M_Rd_wrongCount ct rs p0 = 278 := by unfold M_Rd_wrongCount; (try dsimp only); rw [if_pos c_1]; rw [if_pos c_2]; rw [if_neg c_3]
        exact ct_piret hx hb hr rfl hlocks d_Rd_wrongCount_58 hQ hS (by rw [ef])
    · refine lv_sipush (v := 279) hx hb d_Rd_wrongCount_32 (by decide) ?_
      have ef : M_Rd_wrongCount ct rs p0 = 279 := by unfold M_Rd_wrongCount; (try dsimp only); rw [if_pos c_1]; rw [if_neg c_2]
      exact ct_piret hx hb hr rfl hlocks d_Rd_wrongCount_35 hQ hS (by rw [ef])
  · refine lv_sipush (v := 273) hx hb d_Rd_wrongCount_14 (by decide) ?_
    have ef : M_Rd_wrongCount ct rs p0 = 273 := by unfold M_Rd_wrongCount; (try dsimp only); rw [if_neg c_1]
    exact ct_piret hx hb hr rfl hlocks d_Rd_wrongCount_17 hQ hS (by rw [ef])
