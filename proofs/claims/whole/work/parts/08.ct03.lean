set_option maxHeartbeats 4000000 in
set_option maxRecDepth 100000 in
theorem c_Mk_startFile {l : Launch} {D : va_G} {cB cI cJ : ClassId} (h0 h1 h2 h3 h4 : Nat) (mk : Nat → Int32) (ro : RowS) (st : RowS) (hro : RowOK ro) (hst : StOK 512 st) (p0 : Int32) : Ct classes BW l D (TY cB cI cJ) y_Mk_startFile b_Mk_startFile 2 none ({ frames := 5, cells := 1201, slots := 405536, locals := 149 } : Room) [.ref h0, .int p0] [(h0, .inr (2, [.ref h1, .ref h3, .int (mk 0), .int (mk 1), .int (mk 2), .int (mk 3), .int (mk 4), .int (mk 5), .int (mk 6), .int (mk 7), .int (mk 8), .int (mk 9), .int (mk 10), .int (mk 11)])), (h1, .inr (0, [.ref h2, .int ro.2.2])), (h2, .inl (cB, ro.1, .inl ro.2.1)), (h3, .inr (1, [.int 512, .ref h4, .int st.2.2])), (h4, .inl (cI, st.1, .inl st.2.1))] (fun u : Nat × Nat × (Nat → Int32) × RowS × RowS => u.2.2 = M_Mk_startFile mk ro st p0 ∧ RowOK u.2.2.2.1 ∧ ro.1 ≤ u.2.2.2.1.1 ∧ StOK 512 u.2.2.2.2 ∧ st.1 ≤ u.2.2.2.2.1) (fun u => none) (fun u => [(h0, .inr (2, [.ref h1, .ref h3, .int (u.2.2.1 0), .int (u.2.2.1 1), .int (u.2.2.1 2), .int (u.2.2.1 3), .int (u.2.2.1 4), .int (u.2.2.1 5), .int (u.2.2.1 6), .int (u.2.2.1 7), .int (u.2.2.1 8), .int (u.2.2.1 9), .int (u.2.2.1 10), .int (u.2.2.1 11)])), (h1, .inr (0, [.ref u.1, .int u.2.2.2.1.2.2])), (u.1, .inl (cB, u.2.2.2.1.1, .inl u.2.2.2.1.2.1)), (h3, .inr (1, [.int 512, .ref u.2.1, .int u.2.2.2.2.2.2])), (u.2.1, .inl (cI, u.2.2.2.2.1, .inl u.2.2.2.2.2.1))]) (gC 1024 ro.1 (M_Mk_startFile mk ro st p0).2.1.1 + gC 32 st.1 (M_Mk_startFile mk ro st p0).2.2.1) (gS ro.1 (M_Mk_startFile mk ro st p0).2.1.1 + gS st.1 (M_Mk_startFile mk ro st p0).2.2.1) := by
  refine Ct.intro (by decide +kernel) (Nat.le_of_ble_eq_true rfl) ?_
  intro p e s m below meth c hx hb hr hml hlocks hnm hown hK A hAe hA hS hP hD ls hl Q hQ
  have hown : s.vm.findClass "PictureFile$Maker" = some m.cls := hown
  have hH : Hold classes BW D (TY cB cI cJ) p s m c b_Mk_startFile 2 "PictureFile$Maker" := ⟨bw_ok, hx, hb, hml, hown, hK⟩
  have hw : ∀ {w : Cond}, w ∈ BW → w.before ([.ref h0, .int p0] : List Value).toArray s = true := fun h => Wd.at bw_ok hK.2 h
  have hl : lv_has ls 2 [(0, .ref h0), (1, .int p0)] := hl
  have bo0ro := RowOK.le hro
  have bo0st := StOK.le hst
  refine lv_aload_n hx hb d_Mk_startFile_0 rfl (lv_at hl 0 rfl) ?_
  refine lv_iconst (v := 1) hx hb d_Mk_startFile_1 (by decide) ?_
  refine va_put (D := D) (ci := 2) (v := .int 1) (ty := .boolean) (C := R_Mk) (T := F_Mk) (N := 14) hx hb (kl_Mk hK.2) (fun _ h => h) t_Mk t_Mk_ok n_Mk hown hK.1 hP hD hS 0 rfl rfl 2 (by decide) (hw kw_56) (fun _ h9 => h9) rfl (t_Mk_ok 2 (by decide)) rfl rfl (Nat.le_of_ble_eq_true rfl) d_Mk_startFile_2 (fun H locs hP hD hS => ?_)
  have hP : va_P D classes [(h0, .inr (2, [.ref h1, .ref h3, .int 1, .int (mk 1), .int (mk 2), .int (mk 3), .int (mk 4), .int (mk 5), .int (mk 6), .int (mk 7), .int (mk 8), .int (mk 9), .int (mk 10), .int (mk 11)])), (h1, .inr (0, [.ref h2, .int ro.2.2])), (h2, .inl (cB, ro.1, .inl ro.2.1)), (h3, .inr (1, [.int 512, .ref h4, .int st.2.2])), (h4, .inl (cI, st.1, .inl st.2.1))] H := hP
  have hD : va_D A [(h0, .inr (2, [.ref h1, .ref h3, .int 1, .int (mk 1), .int (mk 2), .int (mk 3), .int (mk 4), .int (mk 5), .int (mk 6), .int (mk 7), .int (mk 8), .int (mk 9), .int (mk 10), .int (mk 11)])), (h1, .inr (0, [.ref h2, .int ro.2.2])), (h2, .inl (cB, ro.1, .inl ro.2.1)), (h3, .inr (1, [.int 512, .ref h4, .int st.2.2])), (h4, .inl (cI, st.1, .inl st.2.1))] := hD
  refine lv_aload_n hx hb d_Mk_startFile_5 rfl (lv_at hl 0 rfl) ?_
  refine lv_iload_n hx hb d_Mk_startFile_6 rfl (lv_at hl 1 rfl) ?_
  refine va_put (D := D) (ci := 2) (v := .int p0) (ty := .int) (C := R_Mk) (T := F_Mk) (N := 14) hx hb (kl_Mk hK.2) (fun _ h => h) t_Mk t_Mk_ok n_Mk hown hK.1 hP hD hS 0 rfl rfl 4 (by decide) (hw kw_46) (fun _ h9 => h9) rfl (t_Mk_ok 4 (by decide)) rfl rfl (Nat.le_of_ble_eq_true rfl) d_Mk_startFile_7 (fun H locs hP hD hS => ?_)
  have hP : va_P D classes [(h0, .inr (2, [.ref h1, .ref h3, .int 1, .int (mk 1), .int p0, .int (mk 3), .int (mk 4), .int (mk 5), .int (mk 6), .int (mk 7), .int (mk 8), .int (mk 9), .int (mk 10), .int (mk 11)])), (h1, .inr (0, [.ref h2, .int ro.2.2])), (h2, .inl (cB, ro.1, .inl ro.2.1)), (h3, .inr (1, [.int 512, .ref h4, .int st.2.2])), (h4, .inl (cI, st.1, .inl st.2.1))] H := hP
  have hD : va_D A [(h0, .inr (2, [.ref h1, .ref h3, .int 1, .int (mk 1), .int p0, .int (mk 3), .int (mk 4), .int (mk 5), .int (mk 6), .int (mk 7), .int (mk 8), .int (mk 9), .int (mk 10), .int (mk 11)])), (h1, .inr (0, [.ref h2, .int ro.2.2])), (h2, .inl (cB, ro.1, .inl ro.2.1)), (h3, .inr (1, [.int 512, .ref h4, .int st.2.2])), (h4, .inl (cI, st.1, .inl st.2.1))] := hD
  refine lv_aload_n hx hb d_Mk_startFile_10 rfl (lv_at hl 0 rfl) ?_
  refine lv_iconst (v := 0) hx hb d_Mk_startFile_11 (by decide) ?_
  refine va_put (D := D) (ci := 2) (v := .int 0) (ty := .int) (C := R_Mk) (T := F_Mk) (N := 14) hx hb (kl_Mk hK.2) (fun _ h => h) t_Mk t_Mk_ok n_Mk hown hK.1 hP hD hS 0 rfl rfl 5 (by decide) (hw kw_57) (fun _ h9 => h9) rfl (t_Mk_ok 5 (by decide)) rfl rfl (Nat.le_of_ble_eq_true rfl) d_Mk_startFile_12 (fun H locs hP hD hS => ?_)
  have hP : va_P D classes [(h0, .inr (2, [.ref h1, .ref h3, .int 1, .int (mk 1), .int p0, .int 0, .int (mk 4), .int (mk 5), .int (mk 6), .int (mk 7), .int (mk 8), .int (mk 9), .int (mk 10), .int (mk 11)])), (h1, .inr (0, [.ref h2, .int ro.2.2])), (h2, .inl (cB, ro.1, .inl ro.2.1)), (h3, .inr (1, [.int 512, .ref h4, .int st.2.2])), (h4, .inl (cI, st.1, .inl st.2.1))] H := hP
  have hD : va_D A [(h0, .inr (2, [.ref h1, .ref h3, .int 1, .int (mk 1), .int p0, .int 0, .int (mk 4), .int (mk 5), .int (mk 6), .int (mk 7), .int (mk 8), .int (mk 9), .int (mk 10), .int (mk 11)])), (h1, .inr (0, [.ref h2, .int ro.2.2])), (h2, .inl (cB, ro.1, .inl ro.2.1)), (h3, .inr (1, [.int 512, .ref h4, .int st.2.2])), (h4, .inl (cI, st.1, .inl st.2.1))] := hD
  refine lv_aload_n hx hb d_Mk_startFile_15 rfl (lv_at hl 0 rfl) ?_
  refine lv_iconst (v := 4) hx hb d_Mk_startFile_16 (by decide) ?_
  refine va_put (D := D) (ci := 2) (v := .int 4) (ty := .int) (C := R_Mk) (T := F_Mk) (N := 14) hx hb (kl_Mk hK.2) (fun _ h => h) t_Mk t_Mk_ok n_Mk hown hK.1 hP hD hS 0 rfl rfl 6 (by decide) (hw kw_58) (fun _ h9 => h9) rfl (t_Mk_ok 6 (by decide)) rfl rfl (Nat.le_of_ble_eq_true rfl) d_Mk_startFile_17 (fun H locs hP hD hS => ?_)
  have hP : va_P D classes [(h0, .inr (2, [.ref h1, .ref h3, .int 1, .int (mk 1), .int p0, .int 0, .int 4, .int (mk 5), .int (mk 6), .int (mk 7), .int (mk 8), .int (mk 9), .int (mk 10), .int (mk 11)])), (h1, .inr (0, [.ref h2, .int ro.2.2])), (h2, .inl (cB, ro.1, .inl ro.2.1)), (h3, .inr (1, [.int 512, .ref h4, .int st.2.2])), (h4, .inl (cI, st.1, .inl st.2.1))] H := hP
  have hD : va_D A [(h0, .inr (2, [.ref h1, .ref h3, .int 1, .int (mk 1), .int p0, .int 0, .int 4, .int (mk 5), .int (mk 6), .int (mk 7), .int (mk 8), .int (mk 9), .int (mk 10), .int (mk 11)])), (h1, .inr (0, [.ref h2, .int ro.2.2])), (h2, .inl (cB, ro.1, .inl ro.2.1)), (h3, .inr (1, [.int 512, .ref h4, .int st.2.2])), (h4, .inl (cI, st.1, .inl st.2.1))] := hD
  refine lv_aload_n hx hb d_Mk_startFile_20 rfl (lv_at hl 0 rfl) ?_
  refine ct_fin (wr := []) (ct_runV (n := 0) (C := R_Mk) (b := h0) (As := []) (rest := []) hH (c_Mk_leavePage h0 h1 h2 h3 h4 (upd (upd (upd (upd mk 0 1) 2 p0) 3 0) 4 4) ro st hro hst _) ⟨cal_Mk_leavePage, ⟨Nat.le_of_ble_eq_true rfl, Nat.le_of_ble_eq_true rfl⟩, (Nat.le_of_ble_eq_true rfl), (Nat.le_of_ble_eq_true rfl)⟩ kw_59 kw_60 kw_61 kw_62 kw_63 (va_recv hK.1 hP (ci := 2) (q0 := 0) rfl rfl) (hP.sub (ws' := [(h0, .inr (2, [.ref h1, .ref h3, .int 1, .int (mk 1), .int p0, .int 0, .int 4, .int (mk 5), .int (mk 6), .int (mk 7), .int (mk 8), .int (mk 9), .int (mk 10), .int (mk 11)])), (h1, .inr (0, [.ref h2, .int ro.2.2])), (h2, .inl (cB, ro.1, .inl ro.2.1)), (h3, .inr (1, [.int 512, .ref h4, .int st.2.2])), (h4, .inl (cI, st.1, .inl st.2.1))]) [0, 1, 2, 3, 4] rfl) (hD.sub (ws' := [(h0, .inr (2, [.ref h1, .ref h3, .int 1, .int (mk 1), .int p0, .int 0, .int 4, .int (mk 5), .int (mk 6), .int (mk 7), .int (mk 8), .int (mk 9), .int (mk 10), .int (mk 11)])), (h1, .inr (0, [.ref h2, .int ro.2.2])), (h2, .inl (cB, ro.1, .inl ro.2.1)), (h3, .inr (1, [.int 512, .ref h4, .int st.2.2])), (h4, .inl (cI, st.1, .inl st.2.1))]) [0, 1, 2, 3, 4] rfl rfl) rfl hl.1 (Nat.le_of_ble_eq_true rfl) d_Mk_startFile_21) hP hD hS hA [0, 1, 2, 3, 4] [] rfl rfl rfl (by decide) (fun u H locs hp hP hD hS => ?_)
  obtain ⟨q1st, x1⟩ := u
  obtain ⟨e1, ok1st, mo1st⟩ := hp
  try dsimp only at e1 ok1st mo1st
  have bo1st := StOK.le ok1st
  have hP : va_P D classes [(h0, .inr (2, [.ref h1, .ref h3, .int (x1.1 0), .int (x1.1 1), .int (x1.1 2), .int (x1.1 3), .int (x1.1 4), .int (x1.1 5), .int (x1.1 6), .int (x1.1 7), .int (x1.1 8), .int (x1.1 9), .int (x1.1 10), .int (x1.1 11)])), (h1, .inr (0, [.ref h2, .int ro.2.2])), (h2, .inl (cB, ro.1, .inl ro.2.1)), (h3, .inr (1, [.int 512, .ref q1st, .int x1.2.2.2])), (q1st, .inl (cI, x1.2.1, .inl x1.2.2.1))] H := hP
  have hD : va_D A [(h0, .inr (2, [.ref h1, .ref h3, .int (x1.1 0), .int (x1.1 1), .int (x1.1 2), .int (x1.1 3), .int (x1.1 4), .int (x1.1 5), .int (x1.1 6), .int (x1.1 7), .int (x1.1 8), .int (x1.1 9), .int (x1.1 10), .int (x1.1 11)])), (h1, .inr (0, [.ref h2, .int ro.2.2])), (h2, .inl (cB, ro.1, .inl ro.2.1)), (h3, .inr (1, [.int 512, .ref q1st, .int x1.2.2.2])), (q1st, .inl (cI, x1.2.1, .inl x1.2.2.1))] := hD
  refine W.widen (k := gC 32 st.1 x1.2.1) (n := gS st.1 x1.2.1) (by rw [← e1]; simp only [gC]; omega) (by rw [← e1]; simp only [gS]; omega) ?_
  refine W.eq (g2 := F0 m 24 ls []) rfl ?_
  refine lv_aload_n hx hb d_Mk_startFile_24 rfl (lv_at hl 0 rfl) ?_
  refine va_get (D := D) (ci := 2) (C := R_Mk) (T := F_Mk) (N := 14) hx hb (kl_Mk hK.2) (fun _ h => h) hown hK.1 hP 0 rfl rfl 0 (by decide) (hw kw_45) (fun _ h9 => h9) rfl d_Mk_startFile_25 ?_
  refine lv_iconst (v := 0) hx hb d_Mk_startFile_28 (by decide) ?_
  refine va_putN (host := "PictureFile") (D := D) (ci := 0) (v := .int 0) (ty := .int) (C := R_Row) (T := F_Row) (N := 2) hx hb (kl_Row hK.2) (fun _ h => h) t_Row t_Row_ok n_Row hown hK.1 hP hD hS 1 rfl rfl 1 (by decide) (hw kw_64) (fun _ h9 => h9) rfl (t_Row_ok 1 (by decide)) rfl rfl (Nat.le_of_ble_eq_true rfl) d_Mk_startFile_29 (fun H locs hP hD hS => ?_)
  have hP : va_P D classes [(h0, .inr (2, [.ref h1, .ref h3, .int (x1.1 0), .int (x1.1 1), .int (x1.1 2), .int (x1.1 3), .int (x1.1 4), .int (x1.1 5), .int (x1.1 6), .int (x1.1 7), .int (x1.1 8), .int (x1.1 9), .int (x1.1 10), .int (x1.1 11)])), (h1, .inr (0, [.ref h2, .int 0])), (h2, .inl (cB, ro.1, .inl ro.2.1)), (h3, .inr (1, [.int 512, .ref q1st, .int x1.2.2.2])), (q1st, .inl (cI, x1.2.1, .inl x1.2.2.1))] H := hP
  have hD : va_D A [(h0, .inr (2, [.ref h1, .ref h3, .int (x1.1 0), .int (x1.1 1), .int (x1.1 2), .int (x1.1 3), .int (x1.1 4), .int (x1.1 5), .int (x1.1 6), .int (x1.1 7), .int (x1.1 8), .int (x1.1 9), .int (x1.1 10), .int (x1.1 11)])), (h1, .inr (0, [.ref h2, .int 0])), (h2, .inl (cB, ro.1, .inl ro.2.1)), (h3, .inr (1, [.int 512, .ref q1st, .int x1.2.2.2])), (q1st, .inl (cI, x1.2.1, .inl x1.2.2.1))] := hD
  refine lv_aload_n hx hb d_Mk_startFile_32 rfl (lv_at hl 0 rfl) ?_
  refine va_get (D := D) (ci := 2) (C := R_Mk) (T := F_Mk) (N := 14) hx hb (kl_Mk hK.2) (fun _ h => h) hown hK.1 hP 0 rfl rfl 0 (by decide) (hw kw_45) (fun _ h9 => h9) rfl d_Mk_startFile_33 ?_
  refine lv_aload_n hx hb d_Mk_startFile_36 rfl (lv_at hl 0 rfl) ?_
  refine va_get (D := D) (ci := 2) (C := R_Mk) (T := F_Mk) (N := 14) hx hb (kl_Mk hK.2) (fun _ h => h) hown hK.1 hP 0 rfl rfl 4 (by decide) (hw kw_46) (fun _ h9 => h9) rfl d_Mk_startFile_37 ?_
  refine lv_i2l hx hb d_Mk_startFile_40 rfl ?_
  refine lv_iconst (v := 1) hx hb d_Mk_startFile_41 (by decide) ?_
  refine lv_aload_n hx hb d_Mk_startFile_42 rfl (lv_at hl 0 rfl) ?_
  refine va_get (D := D) (ci := 2) (C := R_Mk) (T := F_Mk) (N := 14) hx hb (kl_Mk hK.2) (fun _ h => h) hown hK.1 hP 0 rfl rfl 4 (by decide) (hw kw_46) (fun _ h9 => h9) rfl d_Mk_startFile_43 ?_
  refine ct_fin (wr := [(h0, .inr (2, [.ref h1, .ref h3, .int (x1.1 0), .int (x1.1 1), .int (x1.1 2), .int (x1.1 3), .int (x1.1 4), .int (x1.1 5), .int (x1.1 6), .int (x1.1 7), .int (x1.1 8), .int (x1.1 9), .int (x1.1 10), .int (x1.1 11)])), (h3, .inr (1, [.int 512, .ref q1st, .int x1.2.2.2])), (q1st, .inl (cI, x1.2.1, .inl x1.2.2.1))]) (ct_runVN (host := "PictureFile") (n := 3) (C := R_Row) (b := h1) (As := [.long ((x1.1 2).toInt64), .int 1, .int (x1.1 2)]) (rest := []) hH (c_Row_append h1 h2 (ro.1, ro.2.1, 0) (RowOK.z0 hro) ((x1.1 2).toInt64) 1 (x1.1 2) _) ⟨cal_Row_append, ⟨Nat.le_of_ble_eq_true rfl, Nat.le_of_ble_eq_true rfl⟩, (by show gC 32 st.1 x1.2.1 + 601 ≤ 1201; simp only [gC]; omega), (by show gS st.1 x1.2.1 + 235536 ≤ 405536; simp only [gS]; omega)⟩ kw_47 kw_48 kw_24 kw_49 kw_50 (va_recv hK.1 hP (ci := 0) (q0 := 1) rfl rfl) (hP.sub (ws' := [(h1, .inr (0, [.ref h2, .int 0])), (h2, .inl (cB, ro.1, .inl ro.2.1))]) [1, 2] rfl) (hD.sub (ws' := [(h1, .inr (0, [.ref h2, .int 0])), (h2, .inl (cB, ro.1, .inl ro.2.1))]) [1, 2] rfl rfl) rfl hl.1 (Nat.le_of_ble_eq_true rfl) d_Mk_startFile_46) hP hD hS hA [1, 2] [0, 3, 4] rfl rfl rfl (by decide) (fun u H locs hp hP hD hS => ?_)
  obtain ⟨q2ro, x2⟩ := u
  obtain ⟨e2, ok2ro, mo2ro⟩ := hp
  try dsimp only at e2 ok2ro mo2ro
  have bo2ro := RowOK.le ok2ro
  have hP : va_P D classes [(h0, .inr (2, [.ref h1, .ref h3, .int (x1.1 0), .int (x1.1 1), .int (x1.1 2), .int (x1.1 3), .int (x1.1 4), .int (x1.1 5), .int (x1.1 6), .int (x1.1 7), .int (x1.1 8), .int (x1.1 9), .int (x1.1 10), .int (x1.1 11)])), (h3, .inr (1, [.int 512, .ref q1st, .int x1.2.2.2])), (q1st, .inl (cI, x1.2.1, .inl x1.2.2.1)), (h1, .inr (0, [.ref q2ro, .int x2.2.2])), (q2ro, .inl (cB, x2.1, .inl x2.2.1))] H := hP
  have hD : va_D A [(h0, .inr (2, [.ref h1, .ref h3, .int (x1.1 0), .int (x1.1 1), .int (x1.1 2), .int (x1.1 3), .int (x1.1 4), .int (x1.1 5), .int (x1.1 6), .int (x1.1 7), .int (x1.1 8), .int (x1.1 9), .int (x1.1 10), .int (x1.1 11)])), (h3, .inr (1, [.int 512, .ref q1st, .int x1.2.2.2])), (q1st, .inl (cI, x1.2.1, .inl x1.2.2.1)), (h1, .inr (0, [.ref q2ro, .int x2.2.2])), (q2ro, .inl (cB, x2.1, .inl x2.2.1))] := hD
  refine W.widen (k := gC 32 st.1 x1.2.1 + gC 1024 ro.1 x2.1) (n := gS st.1 x1.2.1 + gS ro.1 x2.1) (by rw [← e2]; simp only [gC]; omega) (by rw [← e2]; simp only [gS]; omega) ?_
  refine W.eq (g2 := F0 m 49 ls []) rfl ?_
  refine lv_aload_n hx hb d_Mk_startFile_49 rfl (lv_at hl 0 rfl) ?_
  refine va_get (D := D) (ci := 2) (C := R_Mk) (T := F_Mk) (N := 14) hx hb (kl_Mk hK.2) (fun _ h => h) hown hK.1 hP 0 rfl rfl 0 (by decide) (hw kw_45) (fun _ h9 => h9) rfl d_Mk_startFile_50 ?_
  refine lv_aload_n hx hb d_Mk_startFile_53 rfl (lv_at hl 0 rfl) ?_
  refine va_get (D := D) (ci := 2) (C := R_Mk) (T := F_Mk) (N := 14) hx hb (kl_Mk hK.2) (fun _ h => h) hown hK.1 hP 0 rfl rfl 4 (by decide) (hw kw_46) (fun _ h9 => h9) rfl d_Mk_startFile_54 ?_
  refine lv_i2l hx hb d_Mk_startFile_57 rfl ?_
  refine lv_iconst (v := 1) hx hb d_Mk_startFile_58 (by decide) ?_
  refine lv_aload_n hx hb d_Mk_startFile_59 rfl (lv_at hl 0 rfl) ?_
  refine va_get (D := D) (ci := 2) (C := R_Mk) (T := F_Mk) (N := 14) hx hb (kl_Mk hK.2) (fun _ h => h) hown hK.1 hP 0 rfl rfl 4 (by decide) (hw kw_46) (fun _ h9 => h9) rfl d_Mk_startFile_60 ?_
  refine ct_fin (wr := [(h0, .inr (2, [.ref h1, .ref h3, .int (x1.1 0), .int (x1.1 1), .int (x1.1 2), .int (x1.1 3), .int (x1.1 4), .int (x1.1 5), .int (x1.1 6), .int (x1.1 7), .int (x1.1 8), .int (x1.1 9), .int (x1.1 10), .int (x1.1 11)])), (h3, .inr (1, [.int 512, .ref q1st, .int x1.2.2.2])), (q1st, .inl (cI, x1.2.1, .inl x1.2.2.1))]) (ct_runVN (host := "PictureFile") (n := 3) (C := R_Row) (b := h1) (As := [.long ((x1.1 2).toInt64), .int 1, .int (x1.1 2)]) (rest := []) hH (c_Row_append h1 q2ro x2 ok2ro ((x1.1 2).toInt64) 1 (x1.1 2) _) ⟨cal_Row_append, ⟨Nat.le_of_ble_eq_true rfl, Nat.le_of_ble_eq_true rfl⟩, (by show gC 32 st.1 x1.2.1 + gC 1024 ro.1 x2.1 + 601 ≤ 1201; simp only [gC]; omega), (by show gS st.1 x1.2.1 + gS ro.1 x2.1 + 235536 ≤ 405536; simp only [gS]; omega)⟩ kw_47 kw_48 kw_24 kw_49 kw_50 (va_recv hK.1 hP (ci := 0) (q0 := 3) rfl rfl) (hP.sub (ws' := [(h1, .inr (0, [.ref q2ro, .int x2.2.2])), (q2ro, .inl (cB, x2.1, .inl x2.2.1))]) [3, 4] rfl) (hD.sub (ws' := [(h1, .inr (0, [.ref q2ro, .int x2.2.2])), (q2ro, .inl (cB, x2.1, .inl x2.2.1))]) [3, 4] rfl rfl) rfl hl.1 (Nat.le_of_ble_eq_true rfl) d_Mk_startFile_63) hP hD hS hA [3, 4] [0, 1, 2] rfl rfl rfl (by decide) (fun u H locs hp hP hD hS => ?_)
  obtain ⟨q3ro, x3⟩ := u
  obtain ⟨e3, ok3ro, mo3ro⟩ := hp
  try dsimp only at e3 ok3ro mo3ro
  have bo3ro := RowOK.le ok3ro
  have hP : va_P D classes [(h0, .inr (2, [.ref h1, .ref h3, .int (x1.1 0), .int (x1.1 1), .int (x1.1 2), .int (x1.1 3), .int (x1.1 4), .int (x1.1 5), .int (x1.1 6), .int (x1.1 7), .int (x1.1 8), .int (x1.1 9), .int (x1.1 10), .int (x1.1 11)])), (h3, .inr (1, [.int 512, .ref q1st, .int x1.2.2.2])), (q1st, .inl (cI, x1.2.1, .inl x1.2.2.1)), (h1, .inr (0, [.ref q3ro, .int x3.2.2])), (q3ro, .inl (cB, x3.1, .inl x3.2.1))] H := hP
  have hD : va_D A [(h0, .inr (2, [.ref h1, .ref h3, .int (x1.1 0), .int (x1.1 1), .int (x1.1 2), .int (x1.1 3), .int (x1.1 4), .int (x1.1 5), .int (x1.1 6), .int (x1.1 7), .int (x1.1 8), .int (x1.1 9), .int (x1.1 10), .int (x1.1 11)])), (h3, .inr (1, [.int 512, .ref q1st, .int x1.2.2.2])), (q1st, .inl (cI, x1.2.1, .inl x1.2.2.1)), (h1, .inr (0, [.ref q3ro, .int x3.2.2])), (q3ro, .inl (cB, x3.1, .inl x3.2.1))] := hD
  refine W.widen (k := gC 32 st.1 x1.2.1 + gC 1024 ro.1 x3.1) (n := gS st.1 x1.2.1 + gS ro.1 x3.1) (by rw [← e3]; simp only [gC]; omega) (by rw [← e3]; simp only [gS]; omega) ?_
  refine W.eq (g2 := F0 m 66 ls []) rfl ?_
  refine lv_aload_n hx hb d_Mk_startFile_66 rfl (lv_at hl 0 rfl) ?_
  refine lv_bipush (v := 42) hx hb d_Mk_startFile_67 (by decide) ?_
  refine ct_fin (wr := []) (ct_runV (n := 1) (C := R_Mk) (b := h0) (As := [.int 42]) (rest := []) hH (c_Mk_addShort h0 h1 q3ro h3 q1st x1.1 x3 x1.2 ok3ro ok1st 42 _) ⟨cal_Mk_addShort, ⟨Nat.le_of_ble_eq_true rfl, Nat.le_of_ble_eq_true rfl⟩, (by show gC 32 st.1 x1.2.1 + gC 1024 ro.1 x3.1 + 601 ≤ 1201; simp only [gC]; omega), (by show gS st.1 x1.2.1 + gS ro.1 x3.1 + 235536 ≤ 405536; simp only [gS]; omega)⟩ kw_65 kw_66 kw_61 kw_67 kw_68 (va_recv hK.1 hP (ci := 2) (q0 := 0) rfl rfl) (hP.sub (ws' := [(h0, .inr (2, [.ref h1, .ref h3, .int (x1.1 0), .int (x1.1 1), .int (x1.1 2), .int (x1.1 3), .int (x1.1 4), .int (x1.1 5), .int (x1.1 6), .int (x1.1 7), .int (x1.1 8), .int (x1.1 9), .int (x1.1 10), .int (x1.1 11)])), (h1, .inr (0, [.ref q3ro, .int x3.2.2])), (q3ro, .inl (cB, x3.1, .inl x3.2.1)), (h3, .inr (1, [.int 512, .ref q1st, .int x1.2.2.2])), (q1st, .inl (cI, x1.2.1, .inl x1.2.2.1))]) [0, 3, 4, 1, 2] rfl) (hD.sub (ws' := [(h0, .inr (2, [.ref h1, .ref h3, .int (x1.1 0), .int (x1.1 1), .int (x1.1 2), .int (x1.1 3), .int (x1.1 4), .int (x1.1 5), .int (x1.1 6), .int (x1.1 7), .int (x1.1 8), .int (x1.1 9), .int (x1.1 10), .int (x1.1 11)])), (h1, .inr (0, [.ref q3ro, .int x3.2.2])), (q3ro, .inl (cB, x3.1, .inl x3.2.1)), (h3, .inr (1, [.int 512, .ref q1st, .int x1.2.2.2])), (q1st, .inl (cI, x1.2.1, .inl x1.2.2.1))]) [0, 3, 4, 1, 2] rfl rfl) rfl hl.1 (Nat.le_of_ble_eq_true rfl) d_Mk_startFile_69) hP hD hS hA [0, 3, 4, 1, 2] [] rfl rfl rfl (by decide) (fun u H locs hp hP hD hS => ?_)
  obtain ⟨q4ro, x4⟩ := u
  obtain ⟨e4, ok4ro, mo4ro⟩ := hp
  try dsimp only at e4 ok4ro mo4ro
  have bo4ro := RowOK.le ok4ro
  have hP : va_P D classes [(h0, .inr (2, [.ref h1, .ref h3, .int (x1.1 0), .int (x1.1 1), .int (x1.1 2), .int (x1.1 3), .int (x1.1 4), .int (x1.1 5), .int (x1.1 6), .int (x1.1 7), .int (x1.1 8), .int (x1.1 9), .int (x1.1 10), .int (x1.1 11)])), (h1, .inr (0, [.ref q4ro, .int x4.2.2])), (q4ro, .inl (cB, x4.1, .inl x4.2.1)), (h3, .inr (1, [.int 512, .ref q1st, .int x1.2.2.2])), (q1st, .inl (cI, x1.2.1, .inl x1.2.2.1))] H := hP
  have hD : va_D A [(h0, .inr (2, [.ref h1, .ref h3, .int (x1.1 0), .int (x1.1 1), .int (x1.1 2), .int (x1.1 3), .int (x1.1 4), .int (x1.1 5), .int (x1.1 6), .int (x1.1 7), .int (x1.1 8), .int (x1.1 9), .int (x1.1 10), .int (x1.1 11)])), (h1, .inr (0, [.ref q4ro, .int x4.2.2])), (q4ro, .inl (cB, x4.1, .inl x4.2.1)), (h3, .inr (1, [.int 512, .ref q1st, .int x1.2.2.2])), (q1st, .inl (cI, x1.2.1, .inl x1.2.2.1))] := hD
  refine W.widen (k := gC 32 st.1 x1.2.1 + gC 1024 ro.1 x4.1) (n := gS st.1 x1.2.1 + gS ro.1 x4.1) (by rw [← e4]; simp only [gC]; omega) (by rw [← e4]; simp only [gS]; omega) ?_
  refine W.eq (g2 := F0 m 72 ls []) rfl ?_
  refine lv_aload_n hx hb d_Mk_startFile_72 rfl (lv_at hl 0 rfl) ?_
  refine lv_iconst (v := 0) hx hb d_Mk_startFile_73 (by decide) ?_
  refine ct_fin (wr := []) (ct_runV (n := 1) (C := R_Mk) (b := h0) (As := [.int 0]) (rest := []) hH (c_Mk_addLong h0 h1 q4ro h3 q1st x1.1 x4 x1.2 ok4ro ok1st 0 _) ⟨cal_Mk_addLong, ⟨Nat.le_of_ble_eq_true rfl, Nat.le_of_ble_eq_true rfl⟩, (by show gC 32 st.1 x1.2.1 + gC 1024 ro.1 x4.1 + 601 ≤ 1201; simp only [gC]; omega), (by show gS st.1 x1.2.1 + gS ro.1 x4.1 + 235536 ≤ 405536; simp only [gS]; omega)⟩ kw_69 kw_70 kw_61 kw_71 kw_72 (va_recv hK.1 hP (ci := 2) (q0 := 0) rfl rfl) (hP.sub (ws' := [(h0, .inr (2, [.ref h1, .ref h3, .int (x1.1 0), .int (x1.1 1), .int (x1.1 2), .int (x1.1 3), .int (x1.1 4), .int (x1.1 5), .int (x1.1 6), .int (x1.1 7), .int (x1.1 8), .int (x1.1 9), .int (x1.1 10), .int (x1.1 11)])), (h1, .inr (0, [.ref q4ro, .int x4.2.2])), (q4ro, .inl (cB, x4.1, .inl x4.2.1)), (h3, .inr (1, [.int 512, .ref q1st, .int x1.2.2.2])), (q1st, .inl (cI, x1.2.1, .inl x1.2.2.1))]) [0, 1, 2, 3, 4] rfl) (hD.sub (ws' := [(h0, .inr (2, [.ref h1, .ref h3, .int (x1.1 0), .int (x1.1 1), .int (x1.1 2), .int (x1.1 3), .int (x1.1 4), .int (x1.1 5), .int (x1.1 6), .int (x1.1 7), .int (x1.1 8), .int (x1.1 9), .int (x1.1 10), .int (x1.1 11)])), (h1, .inr (0, [.ref q4ro, .int x4.2.2])), (q4ro, .inl (cB, x4.1, .inl x4.2.1)), (h3, .inr (1, [.int 512, .ref q1st, .int x1.2.2.2])), (q1st, .inl (cI, x1.2.1, .inl x1.2.2.1))]) [0, 1, 2, 3, 4] rfl rfl) rfl hl.1 (Nat.le_of_ble_eq_true rfl) d_Mk_startFile_74) hP hD hS hA [0, 1, 2, 3, 4] [] rfl rfl rfl (by decide) (fun u H locs hp hP hD hS => ?_)
  obtain ⟨q5ro, x5⟩ := u
  obtain ⟨e5, ok5ro, mo5ro⟩ := hp
  try dsimp only at e5 ok5ro mo5ro
  have bo5ro := RowOK.le ok5ro
  have hP : va_P D classes [(h0, .inr (2, [.ref h1, .ref h3, .int (x1.1 0), .int (x1.1 1), .int (x1.1 2), .int (x1.1 3), .int (x1.1 4), .int (x1.1 5), .int (x1.1 6), .int (x1.1 7), .int (x1.1 8), .int (x1.1 9), .int (x1.1 10), .int (x1.1 11)])), (h1, .inr (0, [.ref q5ro, .int x5.2.2])), (q5ro, .inl (cB, x5.1, .inl x5.2.1)), (h3, .inr (1, [.int 512, .ref q1st, .int x1.2.2.2])), (q1st, .inl (cI, x1.2.1, .inl x1.2.2.1))] H := hP
  have hD : va_D A [(h0, .inr (2, [.ref h1, .ref h3, .int (x1.1 0), .int (x1.1 1), .int (x1.1 2), .int (x1.1 3), .int (x1.1 4), .int (x1.1 5), .int (x1.1 6), .int (x1.1 7), .int (x1.1 8), .int (x1.1 9), .int (x1.1 10), .int (x1.1 11)])), (h1, .inr (0, [.ref q5ro, .int x5.2.2])), (q5ro, .inl (cB, x5.1, .inl x5.2.1)), (h3, .inr (1, [.int 512, .ref q1st, .int x1.2.2.2])), (q1st, .inl (cI, x1.2.1, .inl x1.2.2.1))] := hD
  refine W.widen (k := gC 32 st.1 x1.2.1 + gC 1024 ro.1 x5.1) (n := gS st.1 x1.2.1 + gS ro.1 x5.1) (by rw [← e5]; simp only [gC]; omega) (by rw [← e5]; simp only [gS]; omega) ?_
  refine W.eq (g2 := F0 m 77 ls []) rfl ?_
  have ef : M_Mk_startFile mk ro st p0 = (x1.1, x5, x1.2) := by unfold M_Mk_startFile; (try dsimp only); (try rw [← e1]); (try rw [← e2]); (try rw [← e3]); (try rw [← e4]); (try rw [← e5])
  exact ct_vret hx hb hr hlocks d_Mk_startFile_77 ⟨by rw [ef]; simp only [gC]; omega, by rw [ef]; simp only [gS]; omega⟩ hQ hAe hS (q5ro, q1st, (x1.1, x5, x1.2)) rfl ⟨ef.symm, ok5ro, (by show ro.1 ≤ x5.1; omega), ok1st, (by show st.1 ≤ x1.2.1; omega)⟩ (hP.sub [0, 1, 2, 3, 4] rfl) (hD.sub [0, 1, 2, 3, 4] rfl rfl)
set_option maxHeartbeats 4000000 in
set_option maxRecDepth 100000 in
theorem c_Mk_startPage {l : Launch} {D : va_G} {cB cI cJ : ClassId} (h0 h1 h2 h3 h4 : Nat) (mk : Nat → Int32) (ro : RowS) (st : RowS) (hro : RowOK ro) (hst : StOK 512 st) (p0 : Int32) (p1 : Int32) (p2 : Int32) (p3 : Int32) (p4 : Int32) : Ct classes BW l D (TY cB cI cJ) y_Mk_startPage b_Mk_startPage 6 none ({ frames := 1, cells := 0, slots := 0, locals := 23 } : Room) [.ref h0, .int p0, .int p1, .int p2, .int p3, .int p4] [(h0, .inr (2, [.ref h1, .ref h3, .int (mk 0), .int (mk 1), .int (mk 2), .int (mk 3), .int (mk 4), .int (mk 5), .int (mk 6), .int (mk 7), .int (mk 8), .int (mk 9), .int (mk 10), .int (mk 11)])), (h1, .inr (0, [.ref h2, .int ro.2.2])), (h2, .inl (cB, ro.1, .inl ro.2.1)), (h3, .inr (1, [.int 512, .ref h4, .int st.2.2])), (h4, .inl (cI, st.1, .inl st.2.1))] (fun u : (Nat → Int32) => u = M_Mk_startPage mk p0 p1 p2 p3 p4) (fun u => none) (fun u => [(h0, .inr (2, [.ref h1, .ref h3, .int (u 0), .int (u 1), .int (u 2), .int (u 3), .int (u 4), .int (u 5), .int (u 6), .int (u 7), .int (u 8), .int (u 9), .int (u 10), .int (u 11)])), (h1, .inr (0, [.ref h2, .int ro.2.2])), (h2, .inl (cB, ro.1, .inl ro.2.1)), (h3, .inr (1, [.int 512, .ref h4, .int st.2.2])), (h4, .inl (cI, st.1, .inl st.2.1))]) (0) (0) := by
  refine Ct.intro (by decide +kernel) (Nat.le_of_ble_eq_true rfl) ?_
  intro p e s m below meth c hx hb hr hml hlocks hnm hown hK A hAe hA hS hP hD ls hl Q hQ
  have hown : s.vm.findClass "PictureFile$Maker" = some m.cls := hown
  have hH : Hold classes BW D (TY cB cI cJ) p s m c b_Mk_startPage 6 "PictureFile$Maker" := ⟨bw_ok, hx, hb, hml, hown, hK⟩
  have hw : ∀ {w : Cond}, w ∈ BW → w.before ([.ref h0, .int p0, .int p1, .int p2, .int p3, .int p4] : List Value).toArray s = true := fun h => Wd.at bw_ok hK.2 h
  have hl : lv_has ls 6 [(0, .ref h0), (1, .int p0), (2, .int p1), (3, .int p2), (4, .int p3), (5, .int p4)] := hl
  have bo0ro := RowOK.le hro
  have bo0st := StOK.le hst
  refine lv_aload_n hx hb d_Mk_startPage_0 rfl (lv_at hl 0 rfl) ?_
  refine lv_iload_n hx hb d_Mk_startPage_1 rfl (lv_at hl 1 rfl) ?_
  refine va_put (D := D) (ci := 2) (v := .int p0) (ty := .int) (C := R_Mk) (T := F_Mk) (N := 14) hx hb (kl_Mk hK.2) (fun _ h => h) t_Mk t_Mk_ok n_Mk hown hK.1 hP hD hS 0 rfl rfl 7 (by decide) (hw kw_73) (fun _ h9 => h9) rfl (t_Mk_ok 7 (by decide)) rfl rfl (Nat.le_of_ble_eq_true rfl) d_Mk_startPage_2 (fun H locs hP hD hS => ?_)
  have hP : va_P D classes [(h0, .inr (2, [.ref h1, .ref h3, .int (mk 0), .int (mk 1), .int (mk 2), .int (mk 3), .int (mk 4), .int p0, .int (mk 6), .int (mk 7), .int (mk 8), .int (mk 9), .int (mk 10), .int (mk 11)])), (h1, .inr (0, [.ref h2, .int ro.2.2])), (h2, .inl (cB, ro.1, .inl ro.2.1)), (h3, .inr (1, [.int 512, .ref h4, .int st.2.2])), (h4, .inl (cI, st.1, .inl st.2.1))] H := hP
  have hD : va_D A [(h0, .inr (2, [.ref h1, .ref h3, .int (mk 0), .int (mk 1), .int (mk 2), .int (mk 3), .int (mk 4), .int p0, .int (mk 6), .int (mk 7), .int (mk 8), .int (mk 9), .int (mk 10), .int (mk 11)])), (h1, .inr (0, [.ref h2, .int ro.2.2])), (h2, .inl (cB, ro.1, .inl ro.2.1)), (h3, .inr (1, [.int 512, .ref h4, .int st.2.2])), (h4, .inl (cI, st.1, .inl st.2.1))] := hD
  refine lv_aload_n hx hb d_Mk_startPage_5 rfl (lv_at hl 0 rfl) ?_
  refine lv_iload_n hx hb d_Mk_startPage_6 rfl (lv_at hl 2 rfl) ?_
  refine va_put (D := D) (ci := 2) (v := .int p1) (ty := .int) (C := R_Mk) (T := F_Mk) (N := 14) hx hb (kl_Mk hK.2) (fun _ h => h) t_Mk t_Mk_ok n_Mk hown hK.1 hP hD hS 0 rfl rfl 8 (by decide) (hw kw_74) (fun _ h9 => h9) rfl (t_Mk_ok 8 (by decide)) rfl rfl (Nat.le_of_ble_eq_true rfl) d_Mk_startPage_7 (fun H locs hP hD hS => ?_)
  have hP : va_P D classes [(h0, .inr (2, [.ref h1, .ref h3, .int (mk 0), .int (mk 1), .int (mk 2), .int (mk 3), .int (mk 4), .int p0, .int p1, .int (mk 7), .int (mk 8), .int (mk 9), .int (mk 10), .int (mk 11)])), (h1, .inr (0, [.ref h2, .int ro.2.2])), (h2, .inl (cB, ro.1, .inl ro.2.1)), (h3, .inr (1, [.int 512, .ref h4, .int st.2.2])), (h4, .inl (cI, st.1, .inl st.2.1))] H := hP
  have hD : va_D A [(h0, .inr (2, [.ref h1, .ref h3, .int (mk 0), .int (mk 1), .int (mk 2), .int (mk 3), .int (mk 4), .int p0, .int p1, .int (mk 7), .int (mk 8), .int (mk 9), .int (mk 10), .int (mk 11)])), (h1, .inr (0, [.ref h2, .int ro.2.2])), (h2, .inl (cB, ro.1, .inl ro.2.1)), (h3, .inr (1, [.int 512, .ref h4, .int st.2.2])), (h4, .inl (cI, st.1, .inl st.2.1))] := hD
  refine lv_aload_n hx hb d_Mk_startPage_10 rfl (lv_at hl 0 rfl) ?_
  refine lv_iload_n hx hb d_Mk_startPage_11 rfl (lv_at hl 3 rfl) ?_
  refine va_put (D := D) (ci := 2) (v := .int p2) (ty := .int) (C := R_Mk) (T := F_Mk) (N := 14) hx hb (kl_Mk hK.2) (fun _ h => h) t_Mk t_Mk_ok n_Mk hown hK.1 hP hD hS 0 rfl rfl 9 (by decide) (hw kw_75) (fun _ h9 => h9) rfl (t_Mk_ok 9 (by decide)) rfl rfl (Nat.le_of_ble_eq_true rfl) d_Mk_startPage_12 (fun H locs hP hD hS => ?_)
  have hP : va_P D classes [(h0, .inr (2, [.ref h1, .ref h3, .int (mk 0), .int (mk 1), .int (mk 2), .int (mk 3), .int (mk 4), .int p0, .int p1, .int p2, .int (mk 8), .int (mk 9), .int (mk 10), .int (mk 11)])), (h1, .inr (0, [.ref h2, .int ro.2.2])), (h2, .inl (cB, ro.1, .inl ro.2.1)), (h3, .inr (1, [.int 512, .ref h4, .int st.2.2])), (h4, .inl (cI, st.1, .inl st.2.1))] H := hP
  have hD : va_D A [(h0, .inr (2, [.ref h1, .ref h3, .int (mk 0), .int (mk 1), .int (mk 2), .int (mk 3), .int (mk 4), .int p0, .int p1, .int p2, .int (mk 8), .int (mk 9), .int (mk 10), .int (mk 11)])), (h1, .inr (0, [.ref h2, .int ro.2.2])), (h2, .inl (cB, ro.1, .inl ro.2.1)), (h3, .inr (1, [.int 512, .ref h4, .int st.2.2])), (h4, .inl (cI, st.1, .inl st.2.1))] := hD
  refine lv_aload_n hx hb d_Mk_startPage_15 rfl (lv_at hl 0 rfl) ?_
  refine lv_iload hx hb d_Mk_startPage_16 (lv_at hl 4 rfl) ?_
  refine va_put (D := D) (ci := 2) (v := .int p3) (ty := .int) (C := R_Mk) (T := F_Mk) (N := 14) hx hb (kl_Mk hK.2) (fun _ h => h) t_Mk t_Mk_ok n_Mk hown hK.1 hP hD hS 0 rfl rfl 10 (by decide) (hw kw_76) (fun _ h9 => h9) rfl (t_Mk_ok 10 (by decide)) rfl rfl (Nat.le_of_ble_eq_true rfl) d_Mk_startPage_18 (fun H locs hP hD hS => ?_)
  have hP : va_P D classes [(h0, .inr (2, [.ref h1, .ref h3, .int (mk 0), .int (mk 1), .int (mk 2), .int (mk 3), .int (mk 4), .int p0, .int p1, .int p2, .int p3, .int (mk 9), .int (mk 10), .int (mk 11)])), (h1, .inr (0, [.ref h2, .int ro.2.2])), (h2, .inl (cB, ro.1, .inl ro.2.1)), (h3, .inr (1, [.int 512, .ref h4, .int st.2.2])), (h4, .inl (cI, st.1, .inl st.2.1))] H := hP
  have hD : va_D A [(h0, .inr (2, [.ref h1, .ref h3, .int (mk 0), .int (mk 1), .int (mk 2), .int (mk 3), .int (mk 4), .int p0, .int p1, .int p2, .int p3, .int (mk 9), .int (mk 10), .int (mk 11)])), (h1, .inr (0, [.ref h2, .int ro.2.2])), (h2, .inl (cB, ro.1, .inl ro.2.1)), (h3, .inr (1, [.int 512, .ref h4, .int st.2.2])), (h4, .inl (cI, st.1, .inl st.2.1))] := hD
  refine lv_aload_n hx hb d_Mk_startPage_21 rfl (lv_at hl 0 rfl) ?_
  refine lv_iload hx hb d_Mk_startPage_22 (lv_at hl 5 rfl) ?_
  refine va_put (D := D) (ci := 2) (v := .int p4) (ty := .int) (C := R_Mk) (T := F_Mk) (N := 14) hx hb (kl_Mk hK.2) (fun _ h => h) t_Mk t_Mk_ok n_Mk hown hK.1 hP hD hS 0 rfl rfl 11 (by decide) (hw kw_77) (fun _ h9 => h9) rfl (t_Mk_ok 11 (by decide)) rfl rfl (Nat.le_of_ble_eq_true rfl) d_Mk_startPage_24 (fun H locs hP hD hS => ?_)
  have hP : va_P D classes [(h0, .inr (2, [.ref h1, .ref h3, .int (mk 0), .int (mk 1), .int (mk 2), .int (mk 3), .int (mk 4), .int p0, .int p1, .int p2, .int p3, .int p4, .int (mk 10), .int (mk 11)])), (h1, .inr (0, [.ref h2, .int ro.2.2])), (h2, .inl (cB, ro.1, .inl ro.2.1)), (h3, .inr (1, [.int 512, .ref h4, .int st.2.2])), (h4, .inl (cI, st.1, .inl st.2.1))] H := hP
  have hD : va_D A [(h0, .inr (2, [.ref h1, .ref h3, .int (mk 0), .int (mk 1), .int (mk 2), .int (mk 3), .int (mk 4), .int p0, .int p1, .int p2, .int p3, .int p4, .int (mk 10), .int (mk 11)])), (h1, .inr (0, [.ref h2, .int ro.2.2])), (h2, .inl (cB, ro.1, .inl ro.2.1)), (h3, .inr (1, [.int 512, .ref h4, .int st.2.2])), (h4, .inl (cI, st.1, .inl st.2.1))] := hD
  refine lv_aload_n hx hb d_Mk_startPage_27 rfl (lv_at hl 0 rfl) ?_
  refine lv_aload_n hx hb d_Mk_startPage_28 rfl (lv_at hl 0 rfl) ?_
  refine va_get (D := D) (ci := 2) (C := R_Mk) (T := F_Mk) (N := 14) hx hb (kl_Mk hK.2) (fun _ h => h) hown hK.1 hP 0 rfl rfl 8 (by decide) (hw kw_74) (fun _ h9 => h9) rfl d_Mk_startPage_29 ?_
  refine lv_i2l hx hb d_Mk_startPage_32 rfl ?_
  refine lv_aload_n hx hb d_Mk_startPage_33 rfl (lv_at hl 0 rfl) ?_
  refine va_get (D := D) (ci := 2) (C := R_Mk) (T := F_Mk) (N := 14) hx hb (kl_Mk hK.2) (fun _ h => h) hown hK.1 hP 0 rfl rfl 9 (by decide) (hw kw_75) (fun _ h9 => h9) rfl d_Mk_startPage_34 ?_
  refine lv_i2l hx hb d_Mk_startPage_37 rfl ?_
  refine ct_finP (ct_runSN (host := "PictureFile") (n := 2) (As := [.long p1.toInt64, .long p2.toInt64]) (rest := [.ref h0]) hH (c_PF_stripsOf p1.toInt64 p2.toInt64 _) ⟨cal_PF_stripsOf, ⟨Nat.le_of_ble_eq_true rfl, Nat.le_of_ble_eq_true rfl⟩, (Nat.le_of_ble_eq_true rfl), (Nat.le_of_ble_eq_true rfl)⟩ kw_78 kw_8 kw_3 kw_9 (hP.sub (ws' := []) [] rfl) (hD.sub (ws' := []) [] rfl rfl) rfl hl.1 (Nat.le_of_ble_eq_true rfl) d_Mk_startPage_38) hP hS (fun H hP hS => ?_)
  refine W.eq (g2 := F0 m 41 ls [.long (M_PF_stripsOf p1.toInt64 p2.toInt64), .ref h0]) rfl ?_
  refine lv_l2i hx hb d_Mk_startPage_41 rfl ?_
  refine lv_topi (fun y1 e1 => ?_)
  refine va_put (D := D) (ci := 2) (v := .int y1) (ty := .int) (C := R_Mk) (T := F_Mk) (N := 14) hx hb (kl_Mk hK.2) (fun _ h => h) t_Mk t_Mk_ok n_Mk hown hK.1 hP hD hS 0 rfl rfl 12 (by decide) (hw kw_52) (fun _ h9 => h9) rfl (t_Mk_ok 12 (by decide)) rfl rfl (Nat.le_of_ble_eq_true rfl) d_Mk_startPage_42 (fun H locs hP hD hS => ?_)
  have hP : va_P D classes [(h0, .inr (2, [.ref h1, .ref h3, .int (mk 0), .int (mk 1), .int (mk 2), .int (mk 3), .int (mk 4), .int p0, .int p1, .int p2, .int p3, .int p4, .int y1, .int (mk 11)])), (h1, .inr (0, [.ref h2, .int ro.2.2])), (h2, .inl (cB, ro.1, .inl ro.2.1)), (h3, .inr (1, [.int 512, .ref h4, .int st.2.2])), (h4, .inl (cI, st.1, .inl st.2.1))] H := hP
  have hD : va_D A [(h0, .inr (2, [.ref h1, .ref h3, .int (mk 0), .int (mk 1), .int (mk 2), .int (mk 3), .int (mk 4), .int p0, .int p1, .int p2, .int p3, .int p4, .int y1, .int (mk 11)])), (h1, .inr (0, [.ref h2, .int ro.2.2])), (h2, .inl (cB, ro.1, .inl ro.2.1)), (h3, .inr (1, [.int 512, .ref h4, .int st.2.2])), (h4, .inl (cI, st.1, .inl st.2.1))] := hD
  refine lv_aload_n hx hb d_Mk_startPage_45 rfl (lv_at hl 0 rfl) ?_
  refine lv_iconst (v := 1) hx hb d_Mk_startPage_46 (by decide) ?_
  refine va_put (D := D) (ci := 2) (v := .int 1) (ty := .boolean) (C := R_Mk) (T := F_Mk) (N := 14) hx hb (kl_Mk hK.2) (fun _ h => h) t_Mk t_Mk_ok n_Mk hown hK.1 hP hD hS 0 rfl rfl 3 (by decide) (hw kw_51) (fun _ h9 => h9) rfl (t_Mk_ok 3 (by decide)) rfl rfl (Nat.le_of_ble_eq_true rfl) d_Mk_startPage_47 (fun H locs hP hD hS => ?_)
  have hP : va_P D classes [(h0, .inr (2, [.ref h1, .ref h3, .int (mk 0), .int 1, .int (mk 2), .int (mk 3), .int (mk 4), .int p0, .int p1, .int p2, .int p3, .int p4, .int y1, .int (mk 11)])), (h1, .inr (0, [.ref h2, .int ro.2.2])), (h2, .inl (cB, ro.1, .inl ro.2.1)), (h3, .inr (1, [.int 512, .ref h4, .int st.2.2])), (h4, .inl (cI, st.1, .inl st.2.1))] H := hP
  have hD : va_D A [(h0, .inr (2, [.ref h1, .ref h3, .int (mk 0), .int 1, .int (mk 2), .int (mk 3), .int (mk 4), .int p0, .int p1, .int p2, .int p3, .int p4, .int y1, .int (mk 11)])), (h1, .inr (0, [.ref h2, .int ro.2.2])), (h2, .inl (cB, ro.1, .inl ro.2.1)), (h3, .inr (1, [.int 512, .ref h4, .int st.2.2])), (h4, .inl (cI, st.1, .inl st.2.1))] := hD
  have ef : M_Mk_startPage mk p0 p1 p2 p3 p4 = (upd (upd (upd (upd (upd (upd (upd mk 1 1) 5 p0) 6 p1) 7 p2) 8 p3) 9 p4) 10 y1) := by unfold M_Mk_startPage; (try dsimp only); (try rw [← e1])
  exact ct_vret hx hb hr hlocks d_Mk_startPage_50 ⟨Nat.zero_le _, Nat.zero_le _⟩ hQ hAe hS (upd (upd (upd (upd (upd (upd (upd mk 1 1) 5 p0) 6 p1) 7 p2) 8 p3) 9 p4) 10 y1) rfl ef.symm (hP.sub [0, 1, 2, 3, 4] rfl) (hD.sub [0, 1, 2, 3, 4] rfl rfl)
set_option maxHeartbeats 4000000 in
set_option maxRecDepth 100000 in
theorem c_Mk_stripsToCome {l : Launch} {D : va_G} {cB cI cJ : ClassId} (h0 h1 h2 h3 h4 : Nat) (mk : Nat → Int32) (ro : RowS) (st : RowS) (hro : RowOK ro) (hst : StOK 512 st) : CtP classes BW l D (TY cB cI cJ) y_Mk_stripsToCome b_Mk_stripsToCome 1 (some .int) ({ frames := 0, cells := 0, slots := 0, locals := 0 } : Room) [.ref h0] [(h0, .inr (2, [.ref h1, .ref h3, .int (mk 0), .int (mk 1), .int (mk 2), .int (mk 3), .int (mk 4), .int (mk 5), .int (mk 6), .int (mk 7), .int (mk 8), .int (mk 9), .int (mk 10), .int (mk 11)])), (h1, .inr (0, [.ref h2, .int ro.2.2])), (h2, .inl (cB, ro.1, .inl ro.2.1)), (h3, .inr (1, [.int 512, .ref h4, .int st.2.2])), (h4, .inl (cI, st.1, .inl st.2.1))] (some (.int (M_Mk_stripsToCome mk st))) := by
  refine CtP.intro (by decide +kernel) (Nat.le_of_ble_eq_true rfl) ?_
  intro p e s m below meth c hx hb hr hml hlocks hnm hown hK hS hP hD ls hl Q hQ
  have hown : s.vm.findClass "PictureFile$Maker" = some m.cls := hown
  have hH : Hold classes BW D (TY cB cI cJ) p s m c b_Mk_stripsToCome 1 "PictureFile$Maker" := ⟨bw_ok, hx, hb, hml, hown, hK⟩
  have hw : ∀ {w : Cond}, w ∈ BW → w.before ([.ref h0] : List Value).toArray s = true := fun h => Wd.at bw_ok hK.2 h
  have hl : lv_has ls 1 [(0, .ref h0)] := hl
  have bo0ro := RowOK.le hro
  have bo0st := StOK.le hst
  refine lv_aload_n hx hb d_Mk_stripsToCome_0 rfl (lv_at hl 0 rfl) ?_
  refine va_get (D := D) (ci := 2) (C := R_Mk) (T := F_Mk) (N := 14) hx hb (kl_Mk hK.2) (fun _ h => h) hown hK.1 hP 0 rfl rfl 12 (by decide) (hw kw_52) (fun _ h9 => h9) rfl d_Mk_stripsToCome_1 ?_
  refine lv_aload_n hx hb d_Mk_stripsToCome_4 rfl (lv_at hl 0 rfl) ?_
  refine va_get (D := D) (ci := 2) (C := R_Mk) (T := F_Mk) (N := 14) hx hb (kl_Mk hK.2) (fun _ h => h) hown hK.1 hP 0 rfl rfl 1 (by decide) (hw kw_54) (fun _ h9 => h9) rfl d_Mk_stripsToCome_5 ?_
  refine va_getN (host := "PictureFile") (D := D) (ci := 1) (C := R_St) (T := F_St) (N := 3) hx hb (kl_St hK.2) (fun _ h => h) hown hK.1 hP 3 rfl rfl 2 (by decide) (hw kw_55) (fun _ h9 => h9) rfl d_Mk_stripsToCome_8 ?_
  refine lv_isub hx hb d_Mk_stripsToCome_11 ?_
  have ef : M_Mk_stripsToCome mk st = ((mk 10) - st.2.2) := by rfl
  exact ct_piret hx hb hr rfl hlocks d_Mk_stripsToCome_12 hQ hS (by rw [ef])
set_option maxHeartbeats 4000000 in
set_option maxRecDepth 100000 in
theorem c_Mk_hasRoomFor {l : Launch} {D : va_G} {cB cI cJ : ClassId} (h0 h1 h2 h3 h4 : Nat) (mk : Nat → Int32) (ro : RowS) (st : RowS) (hro : RowOK ro) (hst : StOK 512 st) (p0 : Int32) : CtP classes BW l D (TY cB cI cJ) y_Mk_hasRoomFor b_Mk_hasRoomFor 3 (some .boolean) ({ frames := 0, cells := 0, slots := 0, locals := 0 } : Room) [.ref h0, .int p0] [(h0, .inr (2, [.ref h1, .ref h3, .int (mk 0), .int (mk 1), .int (mk 2), .int (mk 3), .int (mk 4), .int (mk 5), .int (mk 6), .int (mk 7), .int (mk 8), .int (mk 9), .int (mk 10), .int (mk 11)])), (h1, .inr (0, [.ref h2, .int ro.2.2])), (h2, .inl (cB, ro.1, .inl ro.2.1)), (h3, .inr (1, [.int 512, .ref h4, .int st.2.2])), (h4, .inl (cI, st.1, .inl st.2.1))] (some (.int (M_Mk_hasRoomFor mk ro p0))) := by
  refine CtP.intro (by decide +kernel) (Nat.le_of_ble_eq_true rfl) ?_
  intro p e s m below meth c hx hb hr hml hlocks hnm hown hK hS hP hD ls hl Q hQ
  have hown : s.vm.findClass "PictureFile$Maker" = some m.cls := hown
  have hH : Hold classes BW D (TY cB cI cJ) p s m c b_Mk_hasRoomFor 3 "PictureFile$Maker" := ⟨bw_ok, hx, hb, hml, hown, hK⟩
  have hw : ∀ {w : Cond}, w ∈ BW → w.before ([.ref h0, .int p0] : List Value).toArray s = true := fun h => Wd.at bw_ok hK.2 h
  have hl : lv_has ls 3 [(0, .ref h0), (1, .int p0)] := hl
  have bo0ro := RowOK.le hro
  have bo0st := StOK.le hst
  refine lv_aload_n hx hb d_Mk_hasRoomFor_0 rfl (lv_at hl 0 rfl) ?_
  refine va_get (D := D) (ci := 2) (C := R_Mk) (T := F_Mk) (N := 14) hx hb (kl_Mk hK.2) (fun _ h => h) hown hK.1 hP 0 rfl rfl 13 (by decide) (hw kw_53) (fun _ h9 => h9) rfl d_Mk_hasRoomFor_1 ?_
  refine lv_if_ne (tgt := 19) hx hb d_Mk_hasRoomFor_4 (by decide) (fun c_1 => ?_) (fun c_1 => ?_)
  · refine lv_iconst (v := 0) hx hb d_Mk_hasRoomFor_19 (by decide) ?_
    refine lv_istore_n (lv' := [(2, .int 0), (0, .ref h0), (1, .int p0)]) hx hb d_Mk_hasRoomFor_20 rfl hl (by decide) rfl (fun ls hl => ?_)
    refine lv_aload_n hx hb d_Mk_hasRoomFor_21 rfl (lv_at hl 1 rfl) ?_
    refine va_get (D := D) (ci := 2) (C := R_Mk) (T := F_Mk) (N := 14) hx hb (kl_Mk hK.2) (fun _ h => h) hown hK.1 hP 0 rfl rfl 0 (by decide) (hw kw_45) (fun _ h9 => h9) rfl d_Mk_hasRoomFor_22 ?_
    refine va_getN (host := "PictureFile") (D := D) (ci := 0) (C := R_Row) (T := F_Row) (N := 2) hx hb (kl_Row hK.2) (fun _ h => h) hown hK.1 hP 1 rfl rfl 1 (by decide) (hw kw_64) (fun _ h9 => h9) rfl d_Mk_hasRoomFor_25 ?_
    refine lv_iload_n hx hb d_Mk_hasRoomFor_28 rfl (lv_at hl 0 rfl) ?_
    refine lv_iadd hx hb d_Mk_hasRoomFor_29 ?_
    refine lv_iload_n hx hb d_Mk_hasRoomFor_30 rfl (lv_at hl 2 rfl) ?_
    refine lv_iadd hx hb d_Mk_hasRoomFor_31 ?_
    refine lv_ldc (v := 60000) hx hb hown (hw kw_79) d_Mk_hasRoomFor_32 ?_
    refine lv_icmp_gt (tgt := 41) hx hb d_Mk_hasRoomFor_34 (by decide) (fun c_2 => ?_) (fun c_2 => ?_)
    · refine lv_iconst (v := 0) hx hb d_Mk_hasRoomFor_41 (by decide) ?_
      have ef : M_Mk_hasRoomFor mk ro p0 = 0 := by unfold M_Mk_hasRoomFor; (try dsimp only); rw [if_neg c_1]; rw [if_pos c_2]
      exact ct_piret hx hb hr (rfl) hlocks d_Mk_hasRoomFor_42 hQ hS (by rw [ef])
    · refine lv_iconst (v := 1) hx hb d_Mk_hasRoomFor_37 (by decide) ?_
      refine lv_goto (tgt := 42) hx hb d_Mk_hasRoomFor_38 (by decide) ?_
      have ef : M_Mk_hasRoomFor mk ro p0 = 1 := by unfold M_Mk_hasRoomFor; (try dsimp only); rw [if_neg c_1]; rw [if_neg c_2]
      exact ct_piret hx hb hr (rfl) hlocks d_Mk_hasRoomFor_42 hQ hS (by rw [ef])
  · refine lv_aload_n hx hb d_Mk_hasRoomFor_7 rfl (lv_at hl 0 rfl) ?_
    refine va_get (D := D) (ci := 2) (C := R_Mk) (T := F_Mk) (N := 14) hx hb (kl_Mk hK.2) (fun _ h => h) hown hK.1 hP 0 rfl rfl 0 (by decide) (hw kw_45) (fun _ h9 => h9) rfl d_Mk_hasRoomFor_8 ?_
    refine va_getN (host := "PictureFile") (D := D) (ci := 0) (C := R_Row) (T := F_Row) (N := 2) hx hb (kl_Row hK.2) (fun _ h => h) hown hK.1 hP 1 rfl rfl 1 (by decide) (hw kw_64) (fun _ h9 => h9) rfl d_Mk_hasRoomFor_11 ?_
    refine lv_iconst (v := 2) hx hb d_Mk_hasRoomFor_14 (by decide) ?_
    refine lv_irem hx hb d_Mk_hasRoomFor_15 (by decide) ?_
    refine lv_goto (tgt := 20) hx hb d_Mk_hasRoomFor_16 (by decide) ?_
    refine lv_istore_n (lv' := [(2, .int (ro.2.2 - ro.2.2 / 2 * 2)), (0, .ref h0), (1, .int p0)]) hx hb d_Mk_hasRoomFor_20 rfl hl (by decide) rfl (fun ls hl => ?_)
    refine lv_aload_n hx hb d_Mk_hasRoomFor_21 rfl (lv_at hl 1 rfl) ?_
    refine va_get (D := D) (ci := 2) (C := R_Mk) (T := F_Mk) (N := 14) hx hb (kl_Mk hK.2) (fun _ h => h) hown hK.1 hP 0 rfl rfl 0 (by decide) (hw kw_45) (fun _ h9 => h9) rfl d_Mk_hasRoomFor_22 ?_
    refine va_getN (host := "PictureFile") (D := D) (ci := 0) (C := R_Row) (T := F_Row) (N := 2) hx hb (kl_Row hK.2) (fun _ h => h) hown hK.1 hP 1 rfl rfl 1 (by decide) (hw kw_64) (fun _ h9 => h9) rfl d_Mk_hasRoomFor_25 ?_
    refine lv_iload_n hx hb d_Mk_hasRoomFor_28 rfl (lv_at hl 0 rfl) ?_
    refine lv_iadd hx hb d_Mk_hasRoomFor_29 ?_
    refine lv_iload_n hx hb d_Mk_hasRoomFor_30 rfl (lv_at hl 2 rfl) ?_
    refine lv_iadd hx hb d_Mk_hasRoomFor_31 ?_
    refine lv_ldc (v := 60000) hx hb hown (hw kw_79) d_Mk_hasRoomFor_32 ?_
    refine lv_icmp_gt (tgt := 41) hx hb d_Mk_hasRoomFor_34 (by decide) (fun c_3 => ?_) (fun c_3 => ?_)
    · refine lv_iconst (v := 0) hx hb d_Mk_hasRoomFor_41 (by decide) ?_
      have ef : M_Mk_hasRoomFor mk ro p0 = 0 := by unfold M_Mk_hasRoomFor; (try dsimp only); rw [if_pos c_1]; rw [if_pos c_3]
      exact ct_piret hx hb hr (rfl) hlocks d_Mk_hasRoomFor_42 hQ hS (by rw [ef])
    · refine lv_iconst (v := 1) hx hb d_Mk_hasRoomFor_37 (by decide) ?_
      refine lv_goto (tgt := 42) hx hb d_Mk_hasRoomFor_38 (by decide) ?_
      have ef : M_Mk_hasRoomFor mk ro p0 = 1 := by unfold M_Mk_hasRoomFor; (try dsimp only); rw [if_pos c_1]; rw [if_neg c_3]
      exact ct_piret hx hb hr (rfl) hlocks d_Mk_hasRoomFor_42 hQ hS (by rw [ef])
set_option maxHeartbeats 4000000 in
set_option maxRecDepth 100000 in
theorem c_Mk_addToStrip {l : Launch} {D : va_G} {cB cI cJ : ClassId} (h0 h1 h2 h3 h4 : Nat) (mk : Nat → Int32) (ro : RowS) (st : RowS) (hro : RowOK ro) (hst : StOK 512 st) (p0 : Int64) (p1 : Int32) : Ct classes BW l D (TY cB cI cJ) y_Mk_addToStrip b_Mk_addToStrip 4 none ({ frames := 4, cells := 1201, slots := 405536, locals := 128 } : Room) [.ref h0, .long p0, .int p1] [(h0, .inr (2, [.ref h1, .ref h3, .int (mk 0), .int (mk 1), .int (mk 2), .int (mk 3), .int (mk 4), .int (mk 5), .int (mk 6), .int (mk 7), .int (mk 8), .int (mk 9), .int (mk 10), .int (mk 11)])), (h1, .inr (0, [.ref h2, .int ro.2.2])), (h2, .inl (cB, ro.1, .inl ro.2.1)), (h3, .inr (1, [.int 512, .ref h4, .int st.2.2])), (h4, .inl (cI, st.1, .inl st.2.1))] (fun u : Nat × (Nat → Int32) × RowS => u.2 = M_Mk_addToStrip mk ro p0 p1 ∧ RowOK u.2.2 ∧ ro.1 ≤ u.2.2.1) (fun u => none) (fun u => [(h0, .inr (2, [.ref h1, .ref h3, .int (u.2.1 0), .int (u.2.1 1), .int (u.2.1 2), .int (u.2.1 3), .int (u.2.1 4), .int (u.2.1 5), .int (u.2.1 6), .int (u.2.1 7), .int (u.2.1 8), .int (u.2.1 9), .int (u.2.1 10), .int (u.2.1 11)])), (h1, .inr (0, [.ref u.1, .int u.2.2.2.2])), (u.1, .inl (cB, u.2.2.1, .inl u.2.2.2.1)), (h3, .inr (1, [.int 512, .ref h4, .int st.2.2])), (h4, .inl (cI, st.1, .inl st.2.1))]) (gC 1024 ro.1 (M_Mk_addToStrip mk ro p0 p1).2.1) (gS ro.1 (M_Mk_addToStrip mk ro p0 p1).2.1) := by
  refine Ct.intro (by decide +kernel) (Nat.le_of_ble_eq_true rfl) ?_
  intro p e s m below meth c hx hb hr hml hlocks hnm hown hK A hAe hA hS hP hD ls hl Q hQ
  have hown : s.vm.findClass "PictureFile$Maker" = some m.cls := hown
  have hH : Hold classes BW D (TY cB cI cJ) p s m c b_Mk_addToStrip 4 "PictureFile$Maker" := ⟨bw_ok, hx, hb, hml, hown, hK⟩
  have hw : ∀ {w : Cond}, w ∈ BW → w.before ([.ref h0, .long p0, .int p1] : List Value).toArray s = true := fun h => Wd.at bw_ok hK.2 h
  have hl : lv_has ls 4 [(0, .ref h0), (1, .long p0), (3, .int p1)] := hl
  have bo0ro := RowOK.le hro
  have bo0st := StOK.le hst
  refine lv_aload_n hx hb d_Mk_addToStrip_0 rfl (lv_at hl 0 rfl) ?_
  refine va_get (D := D) (ci := 2) (C := R_Mk) (T := F_Mk) (N := 14) hx hb (kl_Mk hK.2) (fun _ h => h) hown hK.1 hP 0 rfl rfl 13 (by decide) (hw kw_53) (fun _ h9 => h9) rfl d_Mk_addToStrip_1 ?_
  refine lv_if_ne (tgt := 14) hx hb d_Mk_addToStrip_4 (by decide) (fun c_1 => ?_) (fun c_1 => ?_)
  · refine lv_aload_n hx hb d_Mk_addToStrip_14 rfl (lv_at hl 0 rfl) ?_
    refine va_get (D := D) (ci := 2) (C := R_Mk) (T := F_Mk) (N := 14) hx hb (kl_Mk hK.2) (fun _ h => h) hown hK.1 hP 0 rfl rfl 0 (by decide) (hw kw_45) (fun _ h9 => h9) rfl d_Mk_addToStrip_15 ?_
    refine lv_lload_n hx hb d_Mk_addToStrip_18 rfl (lv_at hl 1 rfl) ?_
    refine lv_iload_n hx hb d_Mk_addToStrip_19 rfl (lv_at hl 2 rfl) ?_
    refine lv_bipush (v := 77) hx hb d_Mk_addToStrip_20 (by decide) ?_
    refine ct_fin (wr := [(h0, .inr (2, [.ref h1, .ref h3, .int (mk 0), .int (mk 1), .int (mk 2), .int (mk 3), .int (mk 4), .int (mk 5), .int (mk 6), .int (mk 7), .int (mk 8), .int (mk 9), .int (mk 10), .int (mk 11)])), (h3, .inr (1, [.int 512, .ref h4, .int st.2.2])), (h4, .inl (cI, st.1, .inl st.2.1))]) (ct_runVN (host := "PictureFile") (n := 3) (C := R_Row) (b := h1) (As := [.long p0, .int p1, .int 77]) (rest := []) hH (c_Row_append h1 h2 ro hro p0 p1 77 _) ⟨cal_Row_append, ⟨Nat.le_of_ble_eq_true rfl, Nat.le_of_ble_eq_true rfl⟩, (Nat.le_of_ble_eq_true rfl), (Nat.le_of_ble_eq_true rfl)⟩ kw_47 kw_48 kw_24 kw_49 kw_50 (va_recv hK.1 hP (ci := 0) (q0 := 1) rfl rfl) (hP.sub (ws' := [(h1, .inr (0, [.ref h2, .int ro.2.2])), (h2, .inl (cB, ro.1, .inl ro.2.1))]) [1, 2] rfl) (hD.sub (ws' := [(h1, .inr (0, [.ref h2, .int ro.2.2])), (h2, .inl (cB, ro.1, .inl ro.2.1))]) [1, 2] rfl rfl) rfl hl.1 (Nat.le_of_ble_eq_true rfl) d_Mk_addToStrip_22) hP hD hS hA [1, 2] [0, 3, 4] rfl rfl rfl (by decide) (fun u H locs hp hP hD hS => ?_)
    obtain ⟨q1ro, x1⟩ := u
    obtain ⟨e1, ok1ro, mo1ro⟩ := hp
    try dsimp only at e1 ok1ro mo1ro
    have bo1ro := RowOK.le ok1ro
    have hP : va_P D classes [(h0, .inr (2, [.ref h1, .ref h3, .int (mk 0), .int (mk 1), .int (mk 2), .int (mk 3), .int (mk 4), .int (mk 5), .int (mk 6), .int (mk 7), .int (mk 8), .int (mk 9), .int (mk 10), .int (mk 11)])), (h3, .inr (1, [.int 512, .ref h4, .int st.2.2])), (h4, .inl (cI, st.1, .inl st.2.1)), (h1, .inr (0, [.ref q1ro, .int x1.2.2])), (q1ro, .inl (cB, x1.1, .inl x1.2.1))] H := hP
    have hD : va_D A [(h0, .inr (2, [.ref h1, .ref h3, .int (mk 0), .int (mk 1), .int (mk 2), .int (mk 3), .int (mk 4), .int (mk 5), .int (mk 6), .int (mk 7), .int (mk 8), .int (mk 9), .int (mk 10), .int (mk 11)])), (h3, .inr (1, [.int 512, .ref h4, .int st.2.2])), (h4, .inl (cI, st.1, .inl st.2.1)), (h1, .inr (0, [.ref q1ro, .int x1.2.2])), (q1ro, .inl (cB, x1.1, .inl x1.2.1))] := hD
    refine W.widen (k := gC 1024 ro.1 x1.1) (n := gS ro.1 x1.1) (by rw [← e1]; simp only [gC]; omega) (by rw [← e1]; simp only [gS]; omega) ?_
    refine W.eq (g2 := F0 m 25 ls []) rfl ?_
    refine lv_aload_n hx hb d_Mk_addToStrip_25 rfl (lv_at hl 0 rfl) ?_
    refine lv_dup hx hb d_Mk_addToStrip_26 rfl ?_
    refine va_get (D := D) (ci := 2) (C := R_Mk) (T := F_Mk) (N := 14) hx hb (kl_Mk hK.2) (fun _ h => h) hown hK.1 hP 0 rfl rfl 13 (by decide) (hw kw_53) (fun _ h9 => h9) rfl d_Mk_addToStrip_27 ?_
    refine lv_iload_n hx hb d_Mk_addToStrip_30 rfl (lv_at hl 2 rfl) ?_
    refine lv_iadd hx hb d_Mk_addToStrip_31 ?_
    refine lv_topi (fun y2 e2 => ?_)
    refine va_put (D := D) (ci := 2) (v := .int y2) (ty := .int) (C := R_Mk) (T := F_Mk) (N := 14) hx hb (kl_Mk hK.2) (fun _ h => h) t_Mk t_Mk_ok n_Mk hown hK.1 hP hD hS 0 rfl rfl 13 (by decide) (hw kw_53) (fun _ h9 => h9) rfl (t_Mk_ok 13 (by decide)) rfl rfl (Nat.le_of_ble_eq_true rfl) d_Mk_addToStrip_32 (fun H locs hP hD hS => ?_)
    have hP : va_P D classes [(h0, .inr (2, [.ref h1, .ref h3, .int (mk 0), .int (mk 1), .int (mk 2), .int (mk 3), .int (mk 4), .int (mk 5), .int (mk 6), .int (mk 7), .int (mk 8), .int (mk 9), .int (mk 10), .int y2])), (h3, .inr (1, [.int 512, .ref h4, .int st.2.2])), (h4, .inl (cI, st.1, .inl st.2.1)), (h1, .inr (0, [.ref q1ro, .int x1.2.2])), (q1ro, .inl (cB, x1.1, .inl x1.2.1))] H := hP
    have hD : va_D A [(h0, .inr (2, [.ref h1, .ref h3, .int (mk 0), .int (mk 1), .int (mk 2), .int (mk 3), .int (mk 4), .int (mk 5), .int (mk 6), .int (mk 7), .int (mk 8), .int (mk 9), .int (mk 10), .int y2])), (h3, .inr (1, [.int 512, .ref h4, .int st.2.2])), (h4, .inl (cI, st.1, .inl st.2.1)), (h1, .inr (0, [.ref q1ro, .int x1.2.2])), (q1ro, .inl (cB, x1.1, .inl x1.2.1))] := hD
    have ef : M_Mk_addToStrip mk ro p0 p1 = ((upd mk 11 y2), x1) := by unfold M_Mk_addToStrip; (try dsimp only); rw [if_neg c_1]; (try rw [← e1]); (try rw [← e2])
    exact ct_vret hx hb hr hlocks d_Mk_addToStrip_35 ⟨by rw [ef]; simp only [gC]; omega, by rw [ef]; simp only [gS]; omega⟩ hQ hAe hS (q1ro, ((upd mk 11 y2), x1)) rfl ⟨ef.symm, ok1ro, (by show ro.1 ≤ x1.1; omega)⟩ (hP.sub [0, 3, 4, 1, 2] rfl) (hD.sub [0, 3, 4, 1, 2] rfl rfl)
  · refine lv_aload_n hx hb d_Mk_addToStrip_7 rfl (lv_at hl 0 rfl) ?_
    refine va_get (D := D) (ci := 2) (C := R_Mk) (T := F_Mk) (N := 14) hx hb (kl_Mk hK.2) (fun _ h => h) hown hK.1 hP 0 rfl rfl 0 (by decide) (hw kw_45) (fun _ h9 => h9) rfl d_Mk_addToStrip_8 ?_
    refine ct_fin (wr := [(h0, .inr (2, [.ref h1, .ref h3, .int (mk 0), .int (mk 1), .int (mk 2), .int (mk 3), .int (mk 4), .int (mk 5), .int (mk 6), .int (mk 7), .int (mk 8), .int (mk 9), .int (mk 10), .int (mk 11)])), (h3, .inr (1, [.int 512, .ref h4, .int st.2.2])), (h4, .inl (cI, st.1, .inl st.2.1))]) (ct_runVN (host := "PictureFile") (n := 0) (C := R_Row) (b := h1) (As := []) (rest := []) hH (c_Row_makeEven h1 h2 ro hro _) ⟨cal_Row_makeEven, ⟨Nat.le_of_ble_eq_true rfl, Nat.le_of_ble_eq_true rfl⟩, (Nat.le_of_ble_eq_true rfl), (Nat.le_of_ble_eq_true rfl)⟩ kw_80 kw_81 kw_24 kw_82 kw_83 (va_recv hK.1 hP (ci := 0) (q0 := 1) rfl rfl) (hP.sub (ws' := [(h1, .inr (0, [.ref h2, .int ro.2.2])), (h2, .inl (cB, ro.1, .inl ro.2.1))]) [1, 2] rfl) (hD.sub (ws' := [(h1, .inr (0, [.ref h2, .int ro.2.2])), (h2, .inl (cB, ro.1, .inl ro.2.1))]) [1, 2] rfl rfl) rfl hl.1 (Nat.le_of_ble_eq_true rfl) d_Mk_addToStrip_11) hP hD hS hA [1, 2] [0, 3, 4] rfl rfl rfl (by decide) (fun u H locs hp hP hD hS => ?_)
    obtain ⟨q3ro, x3⟩ := u
    obtain ⟨e3, ok3ro, mo3ro⟩ := hp
    try dsimp only at e3 ok3ro mo3ro
    have bo3ro := RowOK.le ok3ro
    have hP : va_P D classes [(h0, .inr (2, [.ref h1, .ref h3, .int (mk 0), .int (mk 1), .int (mk 2), .int (mk 3), .int (mk 4), .int (mk 5), .int (mk 6), .int (mk 7), .int (mk 8), .int (mk 9), .int (mk 10), .int (mk 11)])), (h3, .inr (1, [.int 512, .ref h4, .int st.2.2])), (h4, .inl (cI, st.1, .inl st.2.1)), (h1, .inr (0, [.ref q3ro, .int x3.2.2])), (q3ro, .inl (cB, x3.1, .inl x3.2.1))] H := hP
    have hD : va_D A [(h0, .inr (2, [.ref h1, .ref h3, .int (mk 0), .int (mk 1), .int (mk 2), .int (mk 3), .int (mk 4), .int (mk 5), .int (mk 6), .int (mk 7), .int (mk 8), .int (mk 9), .int (mk 10), .int (mk 11)])), (h3, .inr (1, [.int 512, .ref h4, .int st.2.2])), (h4, .inl (cI, st.1, .inl st.2.1)), (h1, .inr (0, [.ref q3ro, .int x3.2.2])), (q3ro, .inl (cB, x3.1, .inl x3.2.1))] := hD
    refine W.widen (k := gC 1024 ro.1 x3.1) (n := gS ro.1 x3.1) (by rw [← e3]; simp only [gC]; omega) (by rw [← e3]; simp only [gS]; omega) ?_
    refine W.eq (g2 := F0 m 14 ls []) rfl ?_
    refine lv_aload_n hx hb d_Mk_addToStrip_14 rfl (lv_at hl 0 rfl) ?_
    refine va_get (D := D) (ci := 2) (C := R_Mk) (T := F_Mk) (N := 14) hx hb (kl_Mk hK.2) (fun _ h => h) hown hK.1 hP 0 rfl rfl 0 (by decide) (hw kw_45) (fun _ h9 => h9) rfl d_Mk_addToStrip_15 ?_
    refine lv_lload_n hx hb d_Mk_addToStrip_18 rfl (lv_at hl 1 rfl) ?_
    refine lv_iload_n hx hb d_Mk_addToStrip_19 rfl (lv_at hl 2 rfl) ?_
    refine lv_bipush (v := 77) hx hb d_Mk_addToStrip_20 (by decide) ?_
    refine ct_fin (wr := [(h0, .inr (2, [.ref h1, .ref h3, .int (mk 0), .int (mk 1), .int (mk 2), .int (mk 3), .int (mk 4), .int (mk 5), .int (mk 6), .int (mk 7), .int (mk 8), .int (mk 9), .int (mk 10), .int (mk 11)])), (h3, .inr (1, [.int 512, .ref h4, .int st.2.2])), (h4, .inl (cI, st.1, .inl st.2.1))]) (ct_runVN (host := "PictureFile") (n := 3) (C := R_Row) (b := h1) (As := [.long p0, .int p1, .int 77]) (rest := []) hH (c_Row_append h1 q3ro x3 ok3ro p0 p1 77 _) ⟨cal_Row_append, ⟨Nat.le_of_ble_eq_true rfl, Nat.le_of_ble_eq_true rfl⟩, (by show gC 1024 ro.1 x3.1 + 601 ≤ 1201; simp only [gC]; omega), (by show gS ro.1 x3.1 + 235536 ≤ 405536; simp only [gS]; omega)⟩ kw_47 kw_48 kw_24 kw_49 kw_50 (va_recv hK.1 hP (ci := 0) (q0 := 3) rfl rfl) (hP.sub (ws' := [(h1, .inr (0, [.ref q3ro, .int x3.2.2])), (q3ro, .inl (cB, x3.1, .inl x3.2.1))]) [3, 4] rfl) (hD.sub (ws' := [(h1, .inr (0, [.ref q3ro, .int x3.2.2])), (q3ro, .inl (cB, x3.1, .inl x3.2.1))]) [3, 4] rfl rfl) rfl hl.1 (Nat.le_of_ble_eq_true rfl) d_Mk_addToStrip_22) hP hD hS hA [3, 4] [0, 1, 2] rfl rfl rfl (by decide) (fun u H locs hp hP hD hS => ?_)
    obtain ⟨q4ro, x4⟩ := u
    obtain ⟨e4, ok4ro, mo4ro⟩ := hp
    try dsimp only at e4 ok4ro mo4ro
    have bo4ro := RowOK.le ok4ro
    have hP : va_P D classes [(h0, .inr (2, [.ref h1, .ref h3, .int (mk 0), .int (mk 1), .int (mk 2), .int (mk 3), .int (mk 4), .int (mk 5), .int (mk 6), .int (mk 7), .int (mk 8), .int (mk 9), .int (mk 10), .int (mk 11)])), (h3, .inr (1, [.int 512, .ref h4, .int st.2.2])), (h4, .inl (cI, st.1, .inl st.2.1)), (h1, .inr (0, [.ref q4ro, .int x4.2.2])), (q4ro, .inl (cB, x4.1, .inl x4.2.1))] H := hP
    have hD : va_D A [(h0, .inr (2, [.ref h1, .ref h3, .int (mk 0), .int (mk 1), .int (mk 2), .int (mk 3), .int (mk 4), .int (mk 5), .int (mk 6), .int (mk 7), .int (mk 8), .int (mk 9), .int (mk 10), .int (mk 11)])), (h3, .inr (1, [.int 512, .ref h4, .int st.2.2])), (h4, .inl (cI, st.1, .inl st.2.1)), (h1, .inr (0, [.ref q4ro, .int x4.2.2])), (q4ro, .inl (cB, x4.1, .inl x4.2.1))] := hD
    refine W.widen (k := gC 1024 ro.1 x4.1) (n := gS ro.1 x4.1) (by rw [← e4]; simp only [gC]; omega) (by rw [← e4]; simp only [gS]; omega) ?_
    refine W.eq (g2 := F0 m 25 ls []) rfl ?_
    refine lv_aload_n hx hb d_Mk_addToStrip_25 rfl (lv_at hl 0 rfl) ?_
    refine lv_dup hx hb d_Mk_addToStrip_26 rfl ?_
    refine va_get (D := D) (ci := 2) (C := R_Mk) (T := F_Mk) (N := 14) hx hb (kl_Mk hK.2) (fun _ h => h) hown hK.1 hP 0 rfl rfl 13 (by decide) (hw kw_53) (fun _ h9 => h9) rfl d_Mk_addToStrip_27 ?_
    refine lv_iload_n hx hb d_Mk_addToStrip_30 rfl (lv_at hl 2 rfl) ?_
    refine lv_iadd hx hb d_Mk_addToStrip_31 ?_
    refine lv_topi (fun y5 e5 => ?_)
    refine va_put (D := D) (ci := 2) (v := .int y5) (ty := .int) (C := R_Mk) (T := F_Mk) (N := 14) hx hb (kl_Mk hK.2) (fun _ h => h) t_Mk t_Mk_ok n_Mk hown hK.1 hP hD hS 0 rfl rfl 13 (by decide) (hw kw_53) (fun _ h9 => h9) rfl (t_Mk_ok 13 (by decide)) rfl rfl (Nat.le_of_ble_eq_true rfl) d_Mk_addToStrip_32 (fun H locs hP hD hS => ?_)
    have hP : va_P D classes [(h0, .inr (2, [.ref h1, .ref h3, .int (mk 0), .int (mk 1), .int (mk 2), .int (mk 3), .int (mk 4), .int (mk 5), .int (mk 6), .int (mk 7), .int (mk 8), .int (mk 9), .int (mk 10), .int y5])), (h3, .inr (1, [.int 512, .ref h4, .int st.2.2])), (h4, .inl (cI, st.1, .inl st.2.1)), (h1, .inr (0, [.ref q4ro, .int x4.2.2])), (q4ro, .inl (cB, x4.1, .inl x4.2.1))] H := hP
    have hD : va_D A [(h0, .inr (2, [.ref h1, .ref h3, .int (mk 0), .int (mk 1), .int (mk 2), .int (mk 3), .int (mk 4), .int (mk 5), .int (mk 6), .int (mk 7), .int (mk 8), .int (mk 9), .int (mk 10), .int y5])), (h3, .inr (1, [.int 512, .ref h4, .int st.2.2])), (h4, .inl (cI, st.1, .inl st.2.1)), (h1, .inr (0, [.ref q4ro, .int x4.2.2])), (q4ro, .inl (cB, x4.1, .inl x4.2.1))] := hD
    have ef : M_Mk_addToStrip mk ro p0 p1 = ((upd mk 11 y5), x4) := by unfold M_Mk_addToStrip; (try dsimp only); rw [if_pos c_1]; (try rw [← e3]); (try rw [← e4]); (try rw [← e5])
    exact ct_vret hx hb hr hlocks d_Mk_addToStrip_35 ⟨by rw [ef]; simp only [gC]; omega, by rw [ef]; simp only [gS]; omega⟩ hQ hAe hS (q4ro, ((upd mk 11 y5), x4)) rfl ⟨ef.symm, ok4ro, (by show ro.1 ≤ x4.1; omega)⟩ (hP.sub [0, 3, 4, 1, 2] rfl) (hD.sub [0, 3, 4, 1, 2] rfl rfl)
