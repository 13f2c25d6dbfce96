set_option maxHeartbeats 4000000 in
set_option maxRecDepth 100000 in
theorem c_Mk_finishPage {l : Launch} {D : va_G} {cB cI cJ : ClassId} (h0 h1 h2 h3 h4 : Nat) (mk : Nat → Int32) (ro : RowS) (st : RowS) (hro : RowOK ro) (hst : StOK 512 st) : Ct classes BW l D (TY cB cI cJ) y_Mk_finishPage b_Mk_finishPage 4 none ({ frames := 7, cells := 2401, slots := 745536, locals := 196 } : Room) [.ref h0] [(h0, .inr (2, [.ref h1, .ref h3, .int (mk 0), .int (mk 1), .int (mk 2), .int (mk 3), .int (mk 4), .int (mk 5), .int (mk 6), .int (mk 7), .int (mk 8), .int (mk 9), .int (mk 10), .int (mk 11)])), (h1, .inr (0, [.ref h2, .int ro.2.2])), (h2, .inl (cB, ro.1, .inl ro.2.1)), (h3, .inr (1, [.int 512, .ref h4, .int st.2.2])), (h4, .inl (cI, st.1, .inl st.2.1))] (fun u : Nat × Nat × (Nat → Int32) × RowS × RowS => u.2.2 = M_Mk_finishPage mk ro st ∧ RowOK u.2.2.2.1 ∧ ro.1 ≤ u.2.2.2.1.1 ∧ StOK 512 u.2.2.2.2 ∧ st.1 ≤ u.2.2.2.2.1) (fun u => none) (fun u => [(h0, .inr (2, [.ref h1, .ref h3, .int (u.2.2.1 0), .int (u.2.2.1 1), .int (u.2.2.1 2), .int (u.2.2.1 3), .int (u.2.2.1 4), .int (u.2.2.1 5), .int (u.2.2.1 6), .int (u.2.2.1 7), .int (u.2.2.1 8), .int (u.2.2.1 9), .int (u.2.2.1 10), .int (u.2.2.1 11)])), (h1, .inr (0, [.ref u.1, .int u.2.2.2.1.2.2])), (u.1, .inl (cB, u.2.2.2.1.1, .inl u.2.2.2.1.2.1)), (h3, .inr (1, [.int 512, .ref u.2.1, .int u.2.2.2.2.2.2])), (u.2.1, .inl (cI, u.2.2.2.2.1, .inl u.2.2.2.2.2.1))]) (gC 1024 ro.1 (M_Mk_finishPage mk ro st).2.1.1 + gC 32 st.1 (M_Mk_finishPage mk ro st).2.2.1) (gS ro.1 (M_Mk_finishPage mk ro st).2.1.1 + gS st.1 (M_Mk_finishPage mk ro st).2.2.1) := by
  refine Ct.intro (by decide +kernel) (Nat.le_of_ble_eq_true rfl) ?_
  intro p e s m below meth c hx hb hr hml hlocks hnm hown hK A hAe hA hS hP hD ls hl Q hQ
  have hown : s.vm.findClass "PictureFile$Maker" = some m.cls := hown
  have hH : Hold classes BW D (TY cB cI cJ) p s m c b_Mk_finishPage 4 "PictureFile$Maker" := ⟨bw_ok, hx, hb, hml, hown, hK⟩
  have hw : ∀ {w : Cond}, w ∈ BW → w.before ([.ref h0] : List Value).toArray s = true := fun h => Wd.at bw_ok hK.2 h
  have hl : lv_has ls 4 [(0, .ref h0)] := hl
  have bo0ro := RowOK.le hro
  have bo0st := StOK.le hst
  refine lv_aload_n hx hb d_Mk_finishPage_0 rfl (lv_at hl 0 rfl) ?_
  refine va_get (D := D) (ci := 2) (C := R_Mk) (T := F_Mk) (N := 14) hx hb (kl_Mk hK.2) (fun _ h => h) hown hK.1 hP 0 rfl rfl 0 (by decide) (hw kw_45) (fun _ h9 => h9) rfl d_Mk_finishPage_1 ?_
  refine ct_fin (wr := [(h0, .inr (2, [.ref h1, .ref h3, .int (mk 0), .int (mk 1), .int (mk 2), .int (mk 3), .int (mk 4), .int (mk 5), .int (mk 6), .int (mk 7), .int (mk 8), .int (mk 9), .int (mk 10), .int (mk 11)])), (h3, .inr (1, [.int 512, .ref h4, .int st.2.2])), (h4, .inl (cI, st.1, .inl st.2.1))]) (ct_runVN (host := "PictureFile") (n := 0) (C := R_Row) (b := h1) (As := []) (rest := []) hH (c_Row_makeEven h1 h2 ro hro _) ⟨cal_Row_makeEven, ⟨Nat.le_of_ble_eq_true rfl, Nat.le_of_ble_eq_true rfl⟩, (Nat.le_of_ble_eq_true rfl), (Nat.le_of_ble_eq_true rfl)⟩ kw_80 kw_81 kw_24 kw_82 kw_83 (va_recv hK.1 hP (ci := 0) (q0 := 1) rfl rfl) (hP.sub (ws' := [(h1, .inr (0, [.ref h2, .int ro.2.2])), (h2, .inl (cB, ro.1, .inl ro.2.1))]) [1, 2] rfl) (hD.sub (ws' := [(h1, .inr (0, [.ref h2, .int ro.2.2])), (h2, .inl (cB, ro.1, .inl ro.2.1))]) [1, 2] rfl rfl) rfl hl.1 (Nat.le_of_ble_eq_true rfl) d_Mk_finishPage_4) hP hD hS hA [1, 2] [0, 3, 4] rfl rfl rfl (by decide) (fun u H locs hp hP hD hS => ?_)
  obtain ⟨q1ro, x1⟩ := u
  obtain ⟨e1, ok1ro, mo1ro⟩ := hp
  try dsimp only at e1 ok1ro mo1ro
  have bo1ro := RowOK.le ok1ro
  have hP : va_P D classes [(h0, .inr (2, [.ref h1, .ref h3, .int (mk 0), .int (mk 1), .int (mk 2), .int (mk 3), .int (mk 4), .int (mk 5), .int (mk 6), .int (mk 7), .int (mk 8), .int (mk 9), .int (mk 10), .int (mk 11)])), (h3, .inr (1, [.int 512, .ref h4, .int st.2.2])), (h4, .inl (cI, st.1, .inl st.2.1)), (h1, .inr (0, [.ref q1ro, .int x1.2.2])), (q1ro, .inl (cB, x1.1, .inl x1.2.1))] H := hP
  have hD : va_D A [(h0, .inr (2, [.ref h1, .ref h3, .int (mk 0), .int (mk 1), .int (mk 2), .int (mk 3), .int (mk 4), .int (mk 5), .int (mk 6), .int (mk 7), .int (mk 8), .int (mk 9), .int (mk 10), .int (mk 11)])), (h3, .inr (1, [.int 512, .ref h4, .int st.2.2])), (h4, .inl (cI, st.1, .inl st.2.1)), (h1, .inr (0, [.ref q1ro, .int x1.2.2])), (q1ro, .inl (cB, x1.1, .inl x1.2.1))] := hD
  refine W.widen (k := gC 1024 ro.1 x1.1) (n := gS ro.1 x1.1) (by rw [← e1]; simp only [gC]; omega) (by rw [← e1]; simp only [gS]; omega) ?_
  refine W.eq (g2 := F0 m 7 ls []) rfl ?_
  refine lv_aload_n hx hb d_Mk_finishPage_7 rfl (lv_at hl 0 rfl) ?_
  refine va_get (D := D) (ci := 2) (C := R_Mk) (T := F_Mk) (N := 14) hx hb (kl_Mk hK.2) (fun _ h => h) hown hK.1 hP 0 rfl rfl 0 (by decide) (hw kw_45) (fun _ h9 => h9) rfl d_Mk_finishPage_8 ?_
  refine va_getN (host := "PictureFile") (D := D) (ci := 0) (C := R_Row) (T := F_Row) (N := 2) hx hb (kl_Row hK.2) (fun _ h => h) hown hK.1 hP 3 rfl rfl 1 (by decide) (hw kw_64) (fun _ h9 => h9) rfl d_Mk_finishPage_11 ?_
  refine lv_istore_n (lv' := [(1, .int x1.2.2), (0, .ref h0)]) hx hb d_Mk_finishPage_14 rfl hl (by decide) rfl (fun ls hl => ?_)
  refine lv_aload_n hx hb d_Mk_finishPage_15 rfl (lv_at hl 1 rfl) ?_
  refine ct_finP (ct_runV (n := 0) (C := R_Mk) (b := h0) (As := []) (rest := []) hH (c_Mk_hasLists h0 h1 q1ro h3 h4 mk x1 st ok1ro hst _) ⟨cal_Mk_hasLists, ⟨Nat.le_of_ble_eq_true rfl, Nat.le_of_ble_eq_true rfl⟩, (by show gC 1024 ro.1 x1.1 + 0 ≤ 2401; simp only [gC]; omega), (by show gS ro.1 x1.1 + 0 ≤ 745536; simp only [gS]; omega)⟩ kw_89 kw_90 kw_61 kw_91 kw_92 (va_recv hK.1 hP (ci := 2) (q0 := 0) rfl rfl) (hP.sub (ws' := [(h0, .inr (2, [.ref h1, .ref h3, .int (mk 0), .int (mk 1), .int (mk 2), .int (mk 3), .int (mk 4), .int (mk 5), .int (mk 6), .int (mk 7), .int (mk 8), .int (mk 9), .int (mk 10), .int (mk 11)])), (h1, .inr (0, [.ref q1ro, .int x1.2.2])), (q1ro, .inl (cB, x1.1, .inl x1.2.1)), (h3, .inr (1, [.int 512, .ref h4, .int st.2.2])), (h4, .inl (cI, st.1, .inl st.2.1))]) [0, 3, 4, 1, 2] rfl) (hD.sub (ws' := [(h0, .inr (2, [.ref h1, .ref h3, .int (mk 0), .int (mk 1), .int (mk 2), .int (mk 3), .int (mk 4), .int (mk 5), .int (mk 6), .int (mk 7), .int (mk 8), .int (mk 9), .int (mk 10), .int (mk 11)])), (h1, .inr (0, [.ref q1ro, .int x1.2.2])), (q1ro, .inl (cB, x1.1, .inl x1.2.1)), (h3, .inr (1, [.int 512, .ref h4, .int st.2.2])), (h4, .inl (cI, st.1, .inl st.2.1))]) [0, 3, 4, 1, 2] rfl rfl) rfl hl.1 (Nat.le_of_ble_eq_true rfl) d_Mk_finishPage_16) hP hS (fun H hP hS => ?_)
  refine W.eq (g2 := F0 m 19 ls [.int (M_Mk_hasLists st)]) rfl ?_
  refine lv_if_eq (tgt := 32) hx hb d_Mk_finishPage_19 (by decide) (fun c_1 => ?_) (fun c_1 => ?_)
  · refine lv_aload_n hx hb d_Mk_finishPage_32 rfl (lv_at hl 1 rfl) ?_
    refine va_get (D := D) (ci := 2) (C := R_Mk) (T := F_Mk) (N := 14) hx hb (kl_Mk hK.2) (fun _ h => h) hown hK.1 hP 0 rfl rfl 0 (by decide) (hw kw_45) (fun _ h9 => h9) rfl d_Mk_finishPage_33 ?_
    refine va_getN (host := "PictureFile") (D := D) (ci := 0) (C := R_Row) (T := F_Row) (N := 2) hx hb (kl_Row hK.2) (fun _ h => h) hown hK.1 hP 3 rfl rfl 1 (by decide) (hw kw_64) (fun _ h9 => h9) rfl d_Mk_finishPage_36 ?_
    refine lv_istore_n (lv' := [(2, .int x1.2.2), (1, .int x1.2.2), (0, .ref h0)]) hx hb d_Mk_finishPage_39 rfl hl (by decide) rfl (fun ls hl => ?_)
    refine lv_aload_n hx hb d_Mk_finishPage_40 rfl (lv_at hl 2 rfl) ?_
    refine lv_aload_n hx hb d_Mk_finishPage_41 rfl (lv_at hl 2 rfl) ?_
    refine va_get (D := D) (ci := 2) (C := R_Mk) (T := F_Mk) (N := 14) hx hb (kl_Mk hK.2) (fun _ h => h) hown hK.1 hP 0 rfl rfl 10 (by decide) (hw kw_76) (fun _ h9 => h9) rfl d_Mk_finishPage_42 ?_
    refine ct_fin (wr := []) (ct_runV (n := 1) (C := R_Mk) (b := h0) (As := [.int (mk 8)]) (rest := []) hH (c_Mk_addFineness h0 h1 q1ro h3 h4 mk x1 st ok1ro hst (mk 8) _) ⟨cal_Mk_addFineness, ⟨Nat.le_of_ble_eq_true rfl, Nat.le_of_ble_eq_true rfl⟩, (by show gC 1024 ro.1 x1.1 + 1201 ≤ 2401; simp only [gC]; omega), (by show gS ro.1 x1.1 + 405536 ≤ 745536; simp only [gS]; omega)⟩ kw_101 kw_102 kw_61 kw_103 kw_104 (va_recv hK.1 hP (ci := 2) (q0 := 0) rfl rfl) (hP.sub (ws' := [(h0, .inr (2, [.ref h1, .ref h3, .int (mk 0), .int (mk 1), .int (mk 2), .int (mk 3), .int (mk 4), .int (mk 5), .int (mk 6), .int (mk 7), .int (mk 8), .int (mk 9), .int (mk 10), .int (mk 11)])), (h1, .inr (0, [.ref q1ro, .int x1.2.2])), (q1ro, .inl (cB, x1.1, .inl x1.2.1)), (h3, .inr (1, [.int 512, .ref h4, .int st.2.2])), (h4, .inl (cI, st.1, .inl st.2.1))]) [0, 3, 4, 1, 2] rfl) (hD.sub (ws' := [(h0, .inr (2, [.ref h1, .ref h3, .int (mk 0), .int (mk 1), .int (mk 2), .int (mk 3), .int (mk 4), .int (mk 5), .int (mk 6), .int (mk 7), .int (mk 8), .int (mk 9), .int (mk 10), .int (mk 11)])), (h1, .inr (0, [.ref q1ro, .int x1.2.2])), (q1ro, .inl (cB, x1.1, .inl x1.2.1)), (h3, .inr (1, [.int 512, .ref h4, .int st.2.2])), (h4, .inl (cI, st.1, .inl st.2.1))]) [0, 3, 4, 1, 2] rfl rfl) rfl hl.1 (Nat.le_of_ble_eq_true rfl) d_Mk_finishPage_45) hP hD hS hA [0, 3, 4, 1, 2] [] rfl rfl rfl (by decide) (fun u H locs hp hP hD hS => ?_)
    obtain ⟨q2ro, x2⟩ := u
    obtain ⟨e2, ok2ro, mo2ro⟩ := hp
    try dsimp only at e2 ok2ro mo2ro
    have bo2ro := RowOK.le ok2ro
    have hP : va_P D classes [(h0, .inr (2, [.ref h1, .ref h3, .int (mk 0), .int (mk 1), .int (mk 2), .int (mk 3), .int (mk 4), .int (mk 5), .int (mk 6), .int (mk 7), .int (mk 8), .int (mk 9), .int (mk 10), .int (mk 11)])), (h1, .inr (0, [.ref q2ro, .int x2.2.2])), (q2ro, .inl (cB, x2.1, .inl x2.2.1)), (h3, .inr (1, [.int 512, .ref h4, .int st.2.2])), (h4, .inl (cI, st.1, .inl st.2.1))] H := hP
    have hD : va_D A [(h0, .inr (2, [.ref h1, .ref h3, .int (mk 0), .int (mk 1), .int (mk 2), .int (mk 3), .int (mk 4), .int (mk 5), .int (mk 6), .int (mk 7), .int (mk 8), .int (mk 9), .int (mk 10), .int (mk 11)])), (h1, .inr (0, [.ref q2ro, .int x2.2.2])), (q2ro, .inl (cB, x2.1, .inl x2.2.1)), (h3, .inr (1, [.int 512, .ref h4, .int st.2.2])), (h4, .inl (cI, st.1, .inl st.2.1))] := hD
    refine W.widen (k := gC 1024 ro.1 x2.1) (n := gS ro.1 x2.1) (by rw [← e2]; simp only [gC]; omega) (by rw [← e2]; simp only [gS]; omega) ?_
    refine W.eq (g2 := F0 m 48 ls []) rfl ?_
    refine lv_aload_n hx hb d_Mk_finishPage_48 rfl (lv_at hl 2 rfl) ?_
    refine lv_aload_n hx hb d_Mk_finishPage_49 rfl (lv_at hl 2 rfl) ?_
    refine va_get (D := D) (ci := 2) (C := R_Mk) (T := F_Mk) (N := 14) hx hb (kl_Mk hK.2) (fun _ h => h) hown hK.1 hP 0 rfl rfl 11 (by decide) (hw kw_77) (fun _ h9 => h9) rfl d_Mk_finishPage_50 ?_
    refine ct_fin (wr := []) (ct_runV (n := 1) (C := R_Mk) (b := h0) (As := [.int (mk 9)]) (rest := []) hH (c_Mk_addFineness h0 h1 q2ro h3 h4 mk x2 st ok2ro hst (mk 9) _) ⟨cal_Mk_addFineness, ⟨Nat.le_of_ble_eq_true rfl, Nat.le_of_ble_eq_true rfl⟩, (by show gC 1024 ro.1 x2.1 + 1201 ≤ 2401; simp only [gC]; omega), (by show gS ro.1 x2.1 + 405536 ≤ 745536; simp only [gS]; omega)⟩ kw_101 kw_102 kw_61 kw_103 kw_104 (va_recv hK.1 hP (ci := 2) (q0 := 0) rfl rfl) (hP.sub (ws' := [(h0, .inr (2, [.ref h1, .ref h3, .int (mk 0), .int (mk 1), .int (mk 2), .int (mk 3), .int (mk 4), .int (mk 5), .int (mk 6), .int (mk 7), .int (mk 8), .int (mk 9), .int (mk 10), .int (mk 11)])), (h1, .inr (0, [.ref q2ro, .int x2.2.2])), (q2ro, .inl (cB, x2.1, .inl x2.2.1)), (h3, .inr (1, [.int 512, .ref h4, .int st.2.2])), (h4, .inl (cI, st.1, .inl st.2.1))]) [0, 1, 2, 3, 4] rfl) (hD.sub (ws' := [(h0, .inr (2, [.ref h1, .ref h3, .int (mk 0), .int (mk 1), .int (mk 2), .int (mk 3), .int (mk 4), .int (mk 5), .int (mk 6), .int (mk 7), .int (mk 8), .int (mk 9), .int (mk 10), .int (mk 11)])), (h1, .inr (0, [.ref q2ro, .int x2.2.2])), (q2ro, .inl (cB, x2.1, .inl x2.2.1)), (h3, .inr (1, [.int 512, .ref h4, .int st.2.2])), (h4, .inl (cI, st.1, .inl st.2.1))]) [0, 1, 2, 3, 4] rfl rfl) rfl hl.1 (Nat.le_of_ble_eq_true rfl) d_Mk_finishPage_53) hP hD hS hA [0, 1, 2, 3, 4] [] rfl rfl rfl (by decide) (fun u H locs hp hP hD hS => ?_)
    obtain ⟨q3ro, x3⟩ := u
    obtain ⟨e3, ok3ro, mo3ro⟩ := hp
    try dsimp only at e3 ok3ro mo3ro
    have bo3ro := RowOK.le ok3ro
    have hP : va_P D classes [(h0, .inr (2, [.ref h1, .ref h3, .int (mk 0), .int (mk 1), .int (mk 2), .int (mk 3), .int (mk 4), .int (mk 5), .int (mk 6), .int (mk 7), .int (mk 8), .int (mk 9), .int (mk 10), .int (mk 11)])), (h1, .inr (0, [.ref q3ro, .int x3.2.2])), (q3ro, .inl (cB, x3.1, .inl x3.2.1)), (h3, .inr (1, [.int 512, .ref h4, .int st.2.2])), (h4, .inl (cI, st.1, .inl st.2.1))] H := hP
    have hD : va_D A [(h0, .inr (2, [.ref h1, .ref h3, .int (mk 0), .int (mk 1), .int (mk 2), .int (mk 3), .int (mk 4), .int (mk 5), .int (mk 6), .int (mk 7), .int (mk 8), .int (mk 9), .int (mk 10), .int (mk 11)])), (h1, .inr (0, [.ref q3ro, .int x3.2.2])), (q3ro, .inl (cB, x3.1, .inl x3.2.1)), (h3, .inr (1, [.int 512, .ref h4, .int st.2.2])), (h4, .inl (cI, st.1, .inl st.2.1))] := hD
    refine W.widen (k := gC 1024 ro.1 x3.1) (n := gS ro.1 x3.1) (by rw [← e3]; simp only [gC]; omega) (by rw [← e3]; simp only [gS]; omega) ?_
    refine W.eq (g2 := F0 m 56 ls []) rfl ?_
    refine lv_aload_n hx hb d_Mk_finishPage_56 rfl (lv_at hl 2 rfl) ?_
    refine va_get (D := D) (ci := 2) (C := R_Mk) (T := F_Mk) (N := 14) hx hb (kl_Mk hK.2) (fun _ h => h) hown hK.1 hP 0 rfl rfl 0 (by decide) (hw kw_45) (fun _ h9 => h9) rfl d_Mk_finishPage_57 ?_
    refine va_getN (host := "PictureFile") (D := D) (ci := 0) (C := R_Row) (T := F_Row) (N := 2) hx hb (kl_Row hK.2) (fun _ h => h) hown hK.1 hP 1 rfl rfl 1 (by decide) (hw kw_64) (fun _ h9 => h9) rfl d_Mk_finishPage_60 ?_
    refine lv_istore_n (lv' := [(3, .int x3.2.2), (2, .int x1.2.2), (1, .int x1.2.2), (0, .ref h0)]) hx hb d_Mk_finishPage_63 rfl hl (by decide) rfl (fun ls hl => ?_)
    refine lv_aload_n hx hb d_Mk_finishPage_64 rfl (lv_at hl 3 rfl) ?_
    refine lv_iload_n hx hb d_Mk_finishPage_65 rfl (lv_at hl 2 rfl) ?_
    refine lv_iload_n hx hb d_Mk_finishPage_66 rfl (lv_at hl 1 rfl) ?_
    refine ct_fin (wr := []) (ct_runV (n := 2) (C := R_Mk) (b := h0) (As := [.int x1.2.2, .int x1.2.2]) (rest := []) hH (c_Mk_addDirectory h0 h1 q3ro h3 h4 mk x3 st ok3ro hst x1.2.2 x1.2.2 _) ⟨cal_Mk_addDirectory, ⟨Nat.le_of_ble_eq_true rfl, Nat.le_of_ble_eq_true rfl⟩, (by show gC 1024 ro.1 x3.1 + 1801 ≤ 2401; simp only [gC]; omega), (by show gS ro.1 x3.1 + 575536 ≤ 745536; simp only [gS]; omega)⟩ kw_105 kw_106 kw_61 kw_107 kw_108 (va_recv hK.1 hP (ci := 2) (q0 := 0) rfl rfl) (hP.sub (ws' := [(h0, .inr (2, [.ref h1, .ref h3, .int (mk 0), .int (mk 1), .int (mk 2), .int (mk 3), .int (mk 4), .int (mk 5), .int (mk 6), .int (mk 7), .int (mk 8), .int (mk 9), .int (mk 10), .int (mk 11)])), (h1, .inr (0, [.ref q3ro, .int x3.2.2])), (q3ro, .inl (cB, x3.1, .inl x3.2.1)), (h3, .inr (1, [.int 512, .ref h4, .int st.2.2])), (h4, .inl (cI, st.1, .inl st.2.1))]) [0, 1, 2, 3, 4] rfl) (hD.sub (ws' := [(h0, .inr (2, [.ref h1, .ref h3, .int (mk 0), .int (mk 1), .int (mk 2), .int (mk 3), .int (mk 4), .int (mk 5), .int (mk 6), .int (mk 7), .int (mk 8), .int (mk 9), .int (mk 10), .int (mk 11)])), (h1, .inr (0, [.ref q3ro, .int x3.2.2])), (q3ro, .inl (cB, x3.1, .inl x3.2.1)), (h3, .inr (1, [.int 512, .ref h4, .int st.2.2])), (h4, .inl (cI, st.1, .inl st.2.1))]) [0, 1, 2, 3, 4] rfl rfl) rfl hl.1 (Nat.le_of_ble_eq_true rfl) d_Mk_finishPage_67) hP hD hS hA [0, 1, 2, 3, 4] [] rfl rfl rfl (by decide) (fun u H locs hp hP hD hS => ?_)
    obtain ⟨q4ro, x4⟩ := u
    obtain ⟨e4, ok4ro, mo4ro⟩ := hp
    try dsimp only at e4 ok4ro mo4ro
    have bo4ro := RowOK.le ok4ro
    have hP : va_P D classes [(h0, .inr (2, [.ref h1, .ref h3, .int (mk 0), .int (mk 1), .int (mk 2), .int (mk 3), .int (mk 4), .int (mk 5), .int (mk 6), .int (mk 7), .int (mk 8), .int (mk 9), .int (mk 10), .int (mk 11)])), (h1, .inr (0, [.ref q4ro, .int x4.2.2])), (q4ro, .inl (cB, x4.1, .inl x4.2.1)), (h3, .inr (1, [.int 512, .ref h4, .int st.2.2])), (h4, .inl (cI, st.1, .inl st.2.1))] H := hP
    have hD : va_D A [(h0, .inr (2, [.ref h1, .ref h3, .int (mk 0), .int (mk 1), .int (mk 2), .int (mk 3), .int (mk 4), .int (mk 5), .int (mk 6), .int (mk 7), .int (mk 8), .int (mk 9), .int (mk 10), .int (mk 11)])), (h1, .inr (0, [.ref q4ro, .int x4.2.2])), (q4ro, .inl (cB, x4.1, .inl x4.2.1)), (h3, .inr (1, [.int 512, .ref h4, .int st.2.2])), (h4, .inl (cI, st.1, .inl st.2.1))] := hD
    refine W.widen (k := gC 1024 ro.1 x4.1) (n := gS ro.1 x4.1) (by rw [← e4]; simp only [gC]; omega) (by rw [← e4]; simp only [gS]; omega) ?_
    refine W.eq (g2 := F0 m 70 ls []) rfl ?_
    refine lv_aload_n hx hb d_Mk_finishPage_70 rfl (lv_at hl 3 rfl) ?_
    refine va_get (D := D) (ci := 2) (C := R_Mk) (T := F_Mk) (N := 14) hx hb (kl_Mk hK.2) (fun _ h => h) hown hK.1 hP 0 rfl rfl 0 (by decide) (hw kw_45) (fun _ h9 => h9) rfl d_Mk_finishPage_71 ?_
    refine lv_aload_n hx hb d_Mk_finishPage_74 rfl (lv_at hl 3 rfl) ?_
    refine va_get (D := D) (ci := 2) (C := R_Mk) (T := F_Mk) (N := 14) hx hb (kl_Mk hK.2) (fun _ h => h) hown hK.1 hP 0 rfl rfl 6 (by decide) (hw kw_58) (fun _ h9 => h9) rfl d_Mk_finishPage_75 ?_
    refine lv_iload_n hx hb d_Mk_finishPage_78 rfl (lv_at hl 0 rfl) ?_
    refine lv_i2l hx hb d_Mk_finishPage_79 rfl ?_
    refine lv_aload_n hx hb d_Mk_finishPage_80 rfl (lv_at hl 3 rfl) ?_
    refine va_get (D := D) (ci := 2) (C := R_Mk) (T := F_Mk) (N := 14) hx hb (kl_Mk hK.2) (fun _ h => h) hown hK.1 hP 0 rfl rfl 4 (by decide) (hw kw_46) (fun _ h9 => h9) rfl d_Mk_finishPage_81 ?_
    refine ct_fin (wr := [(h0, .inr (2, [.ref h1, .ref h3, .int (mk 0), .int (mk 1), .int (mk 2), .int (mk 3), .int (mk 4), .int (mk 5), .int (mk 6), .int (mk 7), .int (mk 8), .int (mk 9), .int (mk 10), .int (mk 11)])), (h3, .inr (1, [.int 512, .ref h4, .int st.2.2])), (h4, .inl (cI, st.1, .inl st.2.1))]) (ct_runVN (host := "PictureFile") (n := 3) (C := R_Row) (b := h1) (As := [.int (mk 4), .long x3.2.2.toInt64, .int (mk 2)]) (rest := []) hH (c_Row_replaceLong h1 q4ro x4 ok4ro (mk 4) x3.2.2.toInt64 (mk 2) _) ⟨cal_Row_replaceLong, ⟨Nat.le_of_ble_eq_true rfl, Nat.le_of_ble_eq_true rfl⟩, (by show gC 1024 ro.1 x4.1 + 600 ≤ 2401; simp only [gC]; omega), (by show gS ro.1 x4.1 + 170000 ≤ 745536; simp only [gS]; omega)⟩ kw_109 kw_110 kw_24 kw_111 kw_112 (va_recv hK.1 hP (ci := 0) (q0 := 1) rfl rfl) (hP.sub (ws' := [(h1, .inr (0, [.ref q4ro, .int x4.2.2])), (q4ro, .inl (cB, x4.1, .inl x4.2.1))]) [1, 2] rfl) (hD.sub (ws' := [(h1, .inr (0, [.ref q4ro, .int x4.2.2])), (q4ro, .inl (cB, x4.1, .inl x4.2.1))]) [1, 2] rfl rfl) rfl hl.1 (Nat.le_of_ble_eq_true rfl) d_Mk_finishPage_84) hP hD hS hA [1, 2] [0, 3, 4] rfl rfl rfl (by decide) (fun u H locs hp hP hD hS => ?_)
    obtain ⟨q5ro, x5⟩ := u
    obtain ⟨e5, ok5ro, mo5ro⟩ := hp
    try dsimp only at e5 ok5ro mo5ro
    have bo5ro := RowOK.le ok5ro
    have hP : va_P D classes [(h0, .inr (2, [.ref h1, .ref h3, .int (mk 0), .int (mk 1), .int (mk 2), .int (mk 3), .int (mk 4), .int (mk 5), .int (mk 6), .int (mk 7), .int (mk 8), .int (mk 9), .int (mk 10), .int (mk 11)])), (h3, .inr (1, [.int 512, .ref h4, .int st.2.2])), (h4, .inl (cI, st.1, .inl st.2.1)), (h1, .inr (0, [.ref q5ro, .int x5.2.2])), (q5ro, .inl (cB, x5.1, .inl x5.2.1))] H := hP
    have hD : va_D A [(h0, .inr (2, [.ref h1, .ref h3, .int (mk 0), .int (mk 1), .int (mk 2), .int (mk 3), .int (mk 4), .int (mk 5), .int (mk 6), .int (mk 7), .int (mk 8), .int (mk 9), .int (mk 10), .int (mk 11)])), (h3, .inr (1, [.int 512, .ref h4, .int st.2.2])), (h4, .inl (cI, st.1, .inl st.2.1)), (h1, .inr (0, [.ref q5ro, .int x5.2.2])), (q5ro, .inl (cB, x5.1, .inl x5.2.1))] := hD
    refine W.widen (k := gC 1024 ro.1 x5.1) (n := gS ro.1 x5.1) (by rw [← e5]; simp only [gC]; omega) (by rw [← e5]; simp only [gS]; omega) ?_
    refine W.eq (g2 := F0 m 87 ls []) rfl ?_
    refine lv_aload_n hx hb d_Mk_finishPage_87 rfl (lv_at hl 3 rfl) ?_
    refine lv_iload_n hx hb d_Mk_finishPage_88 rfl (lv_at hl 0 rfl) ?_
    refine lv_bipush (v := 122) hx hb d_Mk_finishPage_89 (by decide) ?_
    refine lv_iadd hx hb d_Mk_finishPage_91 ?_
    refine lv_topi (fun y6 e6 => ?_)
    refine va_put (D := D) (ci := 2) (v := .int y6) (ty := .int) (C := R_Mk) (T := F_Mk) (N := 14) hx hb (kl_Mk hK.2) (fun _ h => h) t_Mk t_Mk_ok n_Mk hown hK.1 hP hD hS 0 rfl rfl 6 (by decide) (hw kw_58) (fun _ h9 => h9) rfl (t_Mk_ok 6 (by decide)) rfl rfl (Nat.le_of_ble_eq_true rfl) d_Mk_finishPage_92 (fun H locs hP hD hS => ?_)
    have hP : va_P D classes [(h0, .inr (2, [.ref h1, .ref h3, .int (mk 0), .int (mk 1), .int (mk 2), .int (mk 3), .int y6, .int (mk 5), .int (mk 6), .int (mk 7), .int (mk 8), .int (mk 9), .int (mk 10), .int (mk 11)])), (h3, .inr (1, [.int 512, .ref h4, .int st.2.2])), (h4, .inl (cI, st.1, .inl st.2.1)), (h1, .inr (0, [.ref q5ro, .int x5.2.2])), (q5ro, .inl (cB, x5.1, .inl x5.2.1))] H := hP
    have hD : va_D A [(h0, .inr (2, [.ref h1, .ref h3, .int (mk 0), .int (mk 1), .int (mk 2), .int (mk 3), .int y6, .int (mk 5), .int (mk 6), .int (mk 7), .int (mk 8), .int (mk 9), .int (mk 10), .int (mk 11)])), (h3, .inr (1, [.int 512, .ref h4, .int st.2.2])), (h4, .inl (cI, st.1, .inl st.2.1)), (h1, .inr (0, [.ref q5ro, .int x5.2.2])), (q5ro, .inl (cB, x5.1, .inl x5.2.1))] := hD
    refine lv_aload_n hx hb d_Mk_finishPage_95 rfl (lv_at hl 3 rfl) ?_
    refine lv_dup hx hb d_Mk_finishPage_96 rfl ?_
    refine va_get (D := D) (ci := 2) (C := R_Mk) (T := F_Mk) (N := 14) hx hb (kl_Mk hK.2) (fun _ h => h) hown hK.1 hP 0 rfl rfl 5 (by decide) (hw kw_57) (fun _ h9 => h9) rfl d_Mk_finishPage_97 ?_
    refine lv_iconst (v := 1) hx hb d_Mk_finishPage_100 (by decide) ?_
    refine lv_iadd hx hb d_Mk_finishPage_101 ?_
    refine lv_topi (fun y7 e7 => ?_)
    refine va_put (D := D) (ci := 2) (v := .int y7) (ty := .int) (C := R_Mk) (T := F_Mk) (N := 14) hx hb (kl_Mk hK.2) (fun _ h => h) t_Mk t_Mk_ok n_Mk hown hK.1 hP hD hS 0 rfl rfl 5 (by decide) (hw kw_57) (fun _ h9 => h9) rfl (t_Mk_ok 5 (by decide)) rfl rfl (Nat.le_of_ble_eq_true rfl) d_Mk_finishPage_102 (fun H locs hP hD hS => ?_)
    have hP : va_P D classes [(h0, .inr (2, [.ref h1, .ref h3, .int (mk 0), .int (mk 1), .int (mk 2), .int y7, .int y6, .int (mk 5), .int (mk 6), .int (mk 7), .int (mk 8), .int (mk 9), .int (mk 10), .int (mk 11)])), (h3, .inr (1, [.int 512, .ref h4, .int st.2.2])), (h4, .inl (cI, st.1, .inl st.2.1)), (h1, .inr (0, [.ref q5ro, .int x5.2.2])), (q5ro, .inl (cB, x5.1, .inl x5.2.1))] H := hP
    have hD : va_D A [(h0, .inr (2, [.ref h1, .ref h3, .int (mk 0), .int (mk 1), .int (mk 2), .int y7, .int y6, .int (mk 5), .int (mk 6), .int (mk 7), .int (mk 8), .int (mk 9), .int (mk 10), .int (mk 11)])), (h3, .inr (1, [.int 512, .ref h4, .int st.2.2])), (h4, .inl (cI, st.1, .inl st.2.1)), (h1, .inr (0, [.ref q5ro, .int x5.2.2])), (q5ro, .inl (cB, x5.1, .inl x5.2.1))] := hD
    refine lv_aload_n hx hb d_Mk_finishPage_105 rfl (lv_at hl 3 rfl) ?_
    refine ct_fin (wr := []) (ct_runV (n := 0) (C := R_Mk) (b := h0) (As := []) (rest := []) hH (c_Mk_leavePage h0 h1 q5ro h3 h4 (upd (upd mk 3 y7) 4 y6) x5 st ok5ro hst _) ⟨cal_Mk_leavePage, ⟨Nat.le_of_ble_eq_true rfl, Nat.le_of_ble_eq_true rfl⟩, (by show gC 1024 ro.1 x5.1 + 0 ≤ 2401; simp only [gC]; omega), (by show gS ro.1 x5.1 + 0 ≤ 745536; simp only [gS]; omega)⟩ kw_59 kw_60 kw_61 kw_62 kw_63 (va_recv hK.1 hP (ci := 2) (q0 := 0) rfl rfl) (hP.sub (ws' := [(h0, .inr (2, [.ref h1, .ref h3, .int (mk 0), .int (mk 1), .int (mk 2), .int y7, .int y6, .int (mk 5), .int (mk 6), .int (mk 7), .int (mk 8), .int (mk 9), .int (mk 10), .int (mk 11)])), (h1, .inr (0, [.ref q5ro, .int x5.2.2])), (q5ro, .inl (cB, x5.1, .inl x5.2.1)), (h3, .inr (1, [.int 512, .ref h4, .int st.2.2])), (h4, .inl (cI, st.1, .inl st.2.1))]) [0, 3, 4, 1, 2] rfl) (hD.sub (ws' := [(h0, .inr (2, [.ref h1, .ref h3, .int (mk 0), .int (mk 1), .int (mk 2), .int y7, .int y6, .int (mk 5), .int (mk 6), .int (mk 7), .int (mk 8), .int (mk 9), .int (mk 10), .int (mk 11)])), (h1, .inr (0, [.ref q5ro, .int x5.2.2])), (q5ro, .inl (cB, x5.1, .inl x5.2.1)), (h3, .inr (1, [.int 512, .ref h4, .int st.2.2])), (h4, .inl (cI, st.1, .inl st.2.1))]) [0, 3, 4, 1, 2] rfl rfl) rfl hl.1 (Nat.le_of_ble_eq_true rfl) d_Mk_finishPage_106) hP hD hS hA [0, 3, 4, 1, 2] [] rfl rfl rfl (by decide) (fun u H locs hp hP hD hS => ?_)
    obtain ⟨q8st, x8⟩ := u
    obtain ⟨e8, ok8st, mo8st⟩ := hp
    try dsimp only at e8 ok8st mo8st
    have bo8st := StOK.le ok8st
    have hP : va_P D classes [(h0, .inr (2, [.ref h1, .ref h3, .int (x8.1 0), .int (x8.1 1), .int (x8.1 2), .int (x8.1 3), .int (x8.1 4), .int (x8.1 5), .int (x8.1 6), .int (x8.1 7), .int (x8.1 8), .int (x8.1 9), .int (x8.1 10), .int (x8.1 11)])), (h1, .inr (0, [.ref q5ro, .int x5.2.2])), (q5ro, .inl (cB, x5.1, .inl x5.2.1)), (h3, .inr (1, [.int 512, .ref q8st, .int x8.2.2.2])), (q8st, .inl (cI, x8.2.1, .inl x8.2.2.1))] H := hP
    have hD : va_D A [(h0, .inr (2, [.ref h1, .ref h3, .int (x8.1 0), .int (x8.1 1), .int (x8.1 2), .int (x8.1 3), .int (x8.1 4), .int (x8.1 5), .int (x8.1 6), .int (x8.1 7), .int (x8.1 8), .int (x8.1 9), .int (x8.1 10), .int (x8.1 11)])), (h1, .inr (0, [.ref q5ro, .int x5.2.2])), (q5ro, .inl (cB, x5.1, .inl x5.2.1)), (h3, .inr (1, [.int 512, .ref q8st, .int x8.2.2.2])), (q8st, .inl (cI, x8.2.1, .inl x8.2.2.1))] := hD
    refine W.widen (k := gC 1024 ro.1 x5.1 + gC 32 st.1 x8.2.1) (n := gS ro.1 x5.1 + gS st.1 x8.2.1) (by rw [← e8]; simp only [gC]; omega) (by rw [← e8]; simp only [gS]; omega) ?_
    refine W.eq (g2 := F0 m 109 ls []) rfl ?_
    have ef : M_Mk_finishPage mk ro st = (x8.1, x5, x8.2) := by unfold M_Mk_finishPage; (try dsimp only); (try rw [← e1]); rw [if_pos c_1]; (try rw [← e2]); (try rw [← e3]); (try rw [← e4]); (try rw [← e5]); (try rw [← e6]); (try rw [← e7]); (try rw [← e8])
    exact ct_vret hx hb hr hlocks d_Mk_finishPage_109 ⟨by rw [ef]; simp only [gC]; omega, by rw [ef]; simp only [gS]; omega⟩ hQ hAe hS (q5ro, q8st, (x8.1, x5, x8.2)) rfl ⟨ef.symm, ok5ro, (by show ro.1 ≤ x5.1; omega), ok8st, (by show st.1 ≤ x8.2.1; omega)⟩ (hP.sub [0, 1, 2, 3, 4] rfl) (hD.sub [0, 1, 2, 3, 4] rfl rfl)
  · refine lv_aload_n hx hb d_Mk_finishPage_22 rfl (lv_at hl 1 rfl) ?_
    refine lv_iconst (v := 0) hx hb d_Mk_finishPage_23 (by decide) ?_
    refine ct_fin (wr := []) (ct_runV (n := 1) (C := R_Mk) (b := h0) (As := [.int 0]) (rest := []) hH (c_Mk_addList h0 h1 q1ro h3 h4 mk x1 st ok1ro hst 0 _) ⟨cal_Mk_addList, ⟨Nat.le_of_ble_eq_true rfl, Nat.le_of_ble_eq_true rfl⟩, (by show gC 1024 ro.1 x1.1 + 1201 ≤ 2401; simp only [gC]; omega), (by show gS ro.1 x1.1 + 405536 ≤ 745536; simp only [gS]; omega)⟩ kw_113 kw_114 kw_61 kw_115 kw_116 (va_recv hK.1 hP (ci := 2) (q0 := 0) rfl rfl) (hP.sub (ws' := [(h0, .inr (2, [.ref h1, .ref h3, .int (mk 0), .int (mk 1), .int (mk 2), .int (mk 3), .int (mk 4), .int (mk 5), .int (mk 6), .int (mk 7), .int (mk 8), .int (mk 9), .int (mk 10), .int (mk 11)])), (h1, .inr (0, [.ref q1ro, .int x1.2.2])), (q1ro, .inl (cB, x1.1, .inl x1.2.1)), (h3, .inr (1, [.int 512, .ref h4, .int st.2.2])), (h4, .inl (cI, st.1, .inl st.2.1))]) [0, 3, 4, 1, 2] rfl) (hD.sub (ws' := [(h0, .inr (2, [.ref h1, .ref h3, .int (mk 0), .int (mk 1), .int (mk 2), .int (mk 3), .int (mk 4), .int (mk 5), .int (mk 6), .int (mk 7), .int (mk 8), .int (mk 9), .int (mk 10), .int (mk 11)])), (h1, .inr (0, [.ref q1ro, .int x1.2.2])), (q1ro, .inl (cB, x1.1, .inl x1.2.1)), (h3, .inr (1, [.int 512, .ref h4, .int st.2.2])), (h4, .inl (cI, st.1, .inl st.2.1))]) [0, 3, 4, 1, 2] rfl rfl) rfl hl.1 (Nat.le_of_ble_eq_true rfl) d_Mk_finishPage_24) hP hD hS hA [0, 3, 4, 1, 2] [] rfl rfl rfl (by decide) (fun u H locs hp hP hD hS => ?_)
    obtain ⟨q9ro, x9⟩ := u
    obtain ⟨e9, ok9ro, mo9ro⟩ := hp
    try dsimp only at e9 ok9ro mo9ro
    have bo9ro := RowOK.le ok9ro
    have hP : va_P D classes [(h0, .inr (2, [.ref h1, .ref h3, .int (mk 0), .int (mk 1), .int (mk 2), .int (mk 3), .int (mk 4), .int (mk 5), .int (mk 6), .int (mk 7), .int (mk 8), .int (mk 9), .int (mk 10), .int (mk 11)])), (h1, .inr (0, [.ref q9ro, .int x9.2.2])), (q9ro, .inl (cB, x9.1, .inl x9.2.1)), (h3, .inr (1, [.int 512, .ref h4, .int st.2.2])), (h4, .inl (cI, st.1, .inl st.2.1))] H := hP
    have hD : va_D A [(h0, .inr (2, [.ref h1, .ref h3, .int (mk 0), .int (mk 1), .int (mk 2), .int (mk 3), .int (mk 4), .int (mk 5), .int (mk 6), .int (mk 7), .int (mk 8), .int (mk 9), .int (mk 10), .int (mk 11)])), (h1, .inr (0, [.ref q9ro, .int x9.2.2])), (q9ro, .inl (cB, x9.1, .inl x9.2.1)), (h3, .inr (1, [.int 512, .ref h4, .int st.2.2])), (h4, .inl (cI, st.1, .inl st.2.1))] := hD
    refine W.widen (k := gC 1024 ro.1 x9.1) (n := gS ro.1 x9.1) (by rw [← e9]; simp only [gC]; omega) (by rw [← e9]; simp only [gS]; omega) ?_
    refine W.eq (g2 := F0 m 27 ls []) rfl ?_
    refine lv_aload_n hx hb d_Mk_finishPage_27 rfl (lv_at hl 1 rfl) ?_
    refine lv_iconst (v := 1) hx hb d_Mk_finishPage_28 (by decide) ?_
    refine ct_fin (wr := []) (ct_runV (n := 1) (C := R_Mk) (b := h0) (As := [.int 1]) (rest := []) hH (c_Mk_addList h0 h1 q9ro h3 h4 mk x9 st ok9ro hst 1 _) ⟨cal_Mk_addList, ⟨Nat.le_of_ble_eq_true rfl, Nat.le_of_ble_eq_true rfl⟩, (by show gC 1024 ro.1 x9.1 + 1201 ≤ 2401; simp only [gC]; omega), (by show gS ro.1 x9.1 + 405536 ≤ 745536; simp only [gS]; omega)⟩ kw_113 kw_114 kw_61 kw_115 kw_116 (va_recv hK.1 hP (ci := 2) (q0 := 0) rfl rfl) (hP.sub (ws' := [(h0, .inr (2, [.ref h1, .ref h3, .int (mk 0), .int (mk 1), .int (mk 2), .int (mk 3), .int (mk 4), .int (mk 5), .int (mk 6), .int (mk 7), .int (mk 8), .int (mk 9), .int (mk 10), .int (mk 11)])), (h1, .inr (0, [.ref q9ro, .int x9.2.2])), (q9ro, .inl (cB, x9.1, .inl x9.2.1)), (h3, .inr (1, [.int 512, .ref h4, .int st.2.2])), (h4, .inl (cI, st.1, .inl st.2.1))]) [0, 1, 2, 3, 4] rfl) (hD.sub (ws' := [(h0, .inr (2, [.ref h1, .ref h3, .int (mk 0), .int (mk 1), .int (mk 2), .int (mk 3), .int (mk 4), .int (mk 5), .int (mk 6), .int (mk 7), .int (mk 8), .int (mk 9), .int (mk 10), .int (mk 11)])), (h1, .inr (0, [.ref q9ro, .int x9.2.2])), (q9ro, .inl (cB, x9.1, .inl x9.2.1)), (h3, .inr (1, [.int 512, .ref h4, .int st.2.2])), (h4, .inl (cI, st.1, .inl st.2.1))]) [0, 1, 2, 3, 4] rfl rfl) rfl hl.1 (Nat.le_of_ble_eq_true rfl) d_Mk_finishPage_29) hP hD hS hA [0, 1, 2, 3, 4] [] rfl rfl rfl (by decide) (fun u H locs hp hP hD hS => ?_)
    obtain ⟨q10ro, x10⟩ := u
    obtain ⟨e10, ok10ro, mo10ro⟩ := hp
    try dsimp only at e10 ok10ro mo10ro
    have bo10ro := RowOK.le ok10ro
    have hP : va_P D classes [(h0, .inr (2, [.ref h1, .ref h3, .int (mk 0), .int (mk 1), .int (mk 2), .int (mk 3), .int (mk 4), .int (mk 5), .int (mk 6), .int (mk 7), .int (mk 8), .int (mk 9), .int (mk 10), .int (mk 11)])), (h1, .inr (0, [.ref q10ro, .int x10.2.2])), (q10ro, .inl (cB, x10.1, .inl x10.2.1)), (h3, .inr (1, [.int 512, .ref h4, .int st.2.2])), (h4, .inl (cI, st.1, .inl st.2.1))] H := hP
    have hD : va_D A [(h0, .inr (2, [.ref h1, .ref h3, .int (mk 0), .int (mk 1), .int (mk 2), .int (mk 3), .int (mk 4), .int (mk 5), .int (mk 6), .int (mk 7), .int (mk 8), .int (mk 9), .int (mk 10), .int (mk 11)])), (h1, .inr (0, [.ref q10ro, .int x10.2.2])), (q10ro, .inl (cB, x10.1, .inl x10.2.1)), (h3, .inr (1, [.int 512, .ref h4, .int st.2.2])), (h4, .inl (cI, st.1, .inl st.2.1))] := hD
    refine W.widen (k := gC 1024 ro.1 x10.1) (n := gS ro.1 x10.1) (by rw [← e10]; simp only [gC]; omega) (by rw [← e10]; simp only [gS]; omega) ?_
    refine W.eq (g2 := F0 m 32 ls []) rfl ?_
    refine lv_aload_n hx hb d_Mk_finishPage_32 rfl (lv_at hl 1 rfl) ?_
    refine va_get (D := D) (ci := 2) (C := R_Mk) (T := F_Mk) (N := 14) hx hb (kl_Mk hK.2) (fun _ h => h) hown hK.1 hP 0 rfl rfl 0 (by decide) (hw kw_45) (fun _ h9 => h9) rfl d_Mk_finishPage_33 ?_
    refine va_getN (host := "PictureFile") (D := D) (ci := 0) (C := R_Row) (T := F_Row) (N := 2) hx hb (kl_Row hK.2) (fun _ h => h) hown hK.1 hP 1 rfl rfl 1 (by decide) (hw kw_64) (fun _ h9 => h9) rfl d_Mk_finishPage_36 ?_
    refine lv_istore_n (lv' := [(2, .int x10.2.2), (1, .int x1.2.2), (0, .ref h0)]) hx hb d_Mk_finishPage_39 rfl hl (by decide) rfl (fun ls hl => ?_)
    refine lv_aload_n hx hb d_Mk_finishPage_40 rfl (lv_at hl 2 rfl) ?_
    refine lv_aload_n hx hb d_Mk_finishPage_41 rfl (lv_at hl 2 rfl) ?_
    refine va_get (D := D) (ci := 2) (C := R_Mk) (T := F_Mk) (N := 14) hx hb (kl_Mk hK.2) (fun _ h => h) hown hK.1 hP 0 rfl rfl 10 (by decide) (hw kw_76) (fun _ h9 => h9) rfl d_Mk_finishPage_42 ?_
    refine ct_fin (wr := []) (ct_runV (n := 1) (C := R_Mk) (b := h0) (As := [.int (mk 8)]) (rest := []) hH (c_Mk_addFineness h0 h1 q10ro h3 h4 mk x10 st ok10ro hst (mk 8) _) ⟨cal_Mk_addFineness, ⟨Nat.le_of_ble_eq_true rfl, Nat.le_of_ble_eq_true rfl⟩, (by show gC 1024 ro.1 x10.1 + 1201 ≤ 2401; simp only [gC]; omega), (by show gS ro.1 x10.1 + 405536 ≤ 745536; simp only [gS]; omega)⟩ kw_101 kw_102 kw_61 kw_103 kw_104 (va_recv hK.1 hP (ci := 2) (q0 := 0) rfl rfl) (hP.sub (ws' := [(h0, .inr (2, [.ref h1, .ref h3, .int (mk 0), .int (mk 1), .int (mk 2), .int (mk 3), .int (mk 4), .int (mk 5), .int (mk 6), .int (mk 7), .int (mk 8), .int (mk 9), .int (mk 10), .int (mk 11)])), (h1, .inr (0, [.ref q10ro, .int x10.2.2])), (q10ro, .inl (cB, x10.1, .inl x10.2.1)), (h3, .inr (1, [.int 512, .ref h4, .int st.2.2])), (h4, .inl (cI, st.1, .inl st.2.1))]) [0, 1, 2, 3, 4] rfl) (hD.sub (ws' := [(h0, .inr (2, [.ref h1, .ref h3, .int (mk 0), .int (mk 1), .int (mk 2), .int (mk 3), .int (mk 4), .int (mk 5), .int (mk 6), .int (mk 7), .int (mk 8), .int (mk 9), .int (mk 10), .int (mk 11)])), (h1, .inr (0, [.ref q10ro, .int x10.2.2])), (q10ro, .inl (cB, x10.1, .inl x10.2.1)), (h3, .inr (1, [.int 512, .ref h4, .int st.2.2])), (h4, .inl (cI, st.1, .inl st.2.1))]) [0, 1, 2, 3, 4] rfl rfl) rfl hl.1 (Nat.le_of_ble_eq_true rfl) d_Mk_finishPage_45) hP hD hS hA [0, 1, 2, 3, 4] [] rfl rfl rfl (by decide) (fun u H locs hp hP hD hS => ?_)
    obtain ⟨q11ro, x11⟩ := u
    obtain ⟨e11, ok11ro, mo11ro⟩ := hp
    try dsimp only at e11 ok11ro mo11ro
    have bo11ro := RowOK.le ok11ro
    have hP : va_P D classes [(h0, .inr (2, [.ref h1, .ref h3, .int (mk 0), .int (mk 1), .int (mk 2), .int (mk 3), .int (mk 4), .int (mk 5), .int (mk 6), .int (mk 7), .int (mk 8), .int (mk 9), .int (mk 10), .int (mk 11)])), (h1, .inr (0, [.ref q11ro, .int x11.2.2])), (q11ro, .inl (cB, x11.1, .inl x11.2.1)), (h3, .inr (1, [.int 512, .ref h4, .int st.2.2])), (h4, .inl (cI, st.1, .inl st.2.1))] H := hP
    have hD : va_D A [(h0, .inr (2, [.ref h1, .ref h3, .int (mk 0), .int (mk 1), .int (mk 2), .int (mk 3), .int (mk 4), .int (mk 5), .int (mk 6), .int (mk 7), .int (mk 8), .int (mk 9), .int (mk 10), .int (mk 11)])), (h1, .inr (0, [.ref q11ro, .int x11.2.2])), (q11ro, .inl (cB, x11.1, .inl x11.2.1)), (h3, .inr (1, [.int 512, .ref h4, .int st.2.2])), (h4, .inl (cI, st.1, .inl st.2.1))] := hD
    refine W.widen (k := gC 1024 ro.1 x11.1) (n := gS ro.1 x11.1) (by rw [← e11]; simp only [gC]; omega) (by rw [← e11]; simp only [gS]; omega) ?_
    refine W.eq (g2 := F0 m 48 ls []) rfl ?_
    refine lv_aload_n hx hb d_Mk_finishPage_48 rfl (lv_at hl 2 rfl) ?_
    refine lv_aload_n hx hb d_Mk_finishPage_49 rfl (lv_at hl 2 rfl) ?_
    refine va_get (D := D) (ci := 2) (C := R_Mk) (T := F_Mk) (N := 14) hx hb (kl_Mk hK.2) (fun _ h => h) hown hK.1 hP 0 rfl rfl 11 (by decide) (hw kw_77) (fun _ h9 => h9) rfl d_Mk_finishPage_50 ?_
    refine ct_fin (wr := []) (ct_runV (n := 1) (C := R_Mk) (b := h0) (As := [.int (mk 9)]) (rest := []) hH (c_Mk_addFineness h0 h1 q11ro h3 h4 mk x11 st ok11ro hst (mk 9) _) ⟨cal_Mk_addFineness, ⟨Nat.le_of_ble_eq_true rfl, Nat.le_of_ble_eq_true rfl⟩, (by show gC 1024 ro.1 x11.1 + 1201 ≤ 2401; simp only [gC]; omega), (by show gS ro.1 x11.1 + 405536 ≤ 745536; simp only [gS]; omega)⟩ kw_101 kw_102 kw_61 kw_103 kw_104 (va_recv hK.1 hP (ci := 2) (q0 := 0) rfl rfl) (hP.sub (ws' := [(h0, .inr (2, [.ref h1, .ref h3, .int (mk 0), .int (mk 1), .int (mk 2), .int (mk 3), .int (mk 4), .int (mk 5), .int (mk 6), .int (mk 7), .int (mk 8), .int (mk 9), .int (mk 10), .int (mk 11)])), (h1, .inr (0, [.ref q11ro, .int x11.2.2])), (q11ro, .inl (cB, x11.1, .inl x11.2.1)), (h3, .inr (1, [.int 512, .ref h4, .int st.2.2])), (h4, .inl (cI, st.1, .inl st.2.1))]) [0, 1, 2, 3, 4] rfl) (hD.sub (ws' := [(h0, .inr (2, [.ref h1, .ref h3, .int (mk 0), .int (mk 1), .int (mk 2), .int (mk 3), .int (mk 4), .int (mk 5), .int (mk 6), .int (mk 7), .int (mk 8), .int (mk 9), .int (mk 10), .int (mk 11)])), (h1, .inr (0, [.ref q11ro, .int x11.2.2])), (q11ro, .inl (cB, x11.1, .inl x11.2.1)), (h3, .inr (1, [.int 512, .ref h4, .int st.2.2])), (h4, .inl (cI, st.1, .inl st.2.1))]) [0, 1, 2, 3, 4] rfl rfl) rfl hl.1 (Nat.le_of_ble_eq_true rfl) d_Mk_finishPage_53) hP hD hS hA [0, 1, 2, 3, 4] [] rfl rfl rfl (by decide) (fun u H locs hp hP hD hS => ?_)
    obtain ⟨q12ro, x12⟩ := u
    obtain ⟨e12, ok12ro, mo12ro⟩ := hp
    try dsimp only at e12 ok12ro mo12ro
    have bo12ro := RowOK.le ok12ro
    have hP : va_P D classes [(h0, .inr (2, [.ref h1, .ref h3, .int (mk 0), .int (mk 1), .int (mk 2), .int (mk 3), .int (mk 4), .int (mk 5), .int (mk 6), .int (mk 7), .int (mk 8), .int (mk 9), .int (mk 10), .int (mk 11)])), (h1, .inr (0, [.ref q12ro, .int x12.2.2])), (q12ro, .inl (cB, x12.1, .inl x12.2.1)), (h3, .inr (1, [.int 512, .ref h4, .int st.2.2])), (h4, .inl (cI, st.1, .inl st.2.1))] H := hP
    have hD : va_D A [(h0, .inr (2, [.ref h1, .ref h3, .int (mk 0), .int (mk 1), .int (mk 2), .int (mk 3), .int (mk 4), .int (mk 5), .int (mk 6), .int (mk 7), .int (mk 8), .int (mk 9), .int (mk 10), .int (mk 11)])), (h1, .inr (0, [.ref q12ro, .int x12.2.2])), (q12ro, .inl (cB, x12.1, .inl x12.2.1)), (h3, .inr (1, [.int 512, .ref h4, .int st.2.2])), (h4, .inl (cI, st.1, .inl st.2.1))] := hD
    refine W.widen (k := gC 1024 ro.1 x12.1) (n := gS ro.1 x12.1) (by rw [← e12]; simp only [gC]; omega) (by rw [← e12]; simp only [gS]; omega) ?_
    refine W.eq (g2 := F0 m 56 ls []) rfl ?_
    refine lv_aload_n hx hb d_Mk_finishPage_56 rfl (lv_at hl 2 rfl) ?_
    refine va_get (D := D) (ci := 2) (C := R_Mk) (T := F_Mk) (N := 14) hx hb (kl_Mk hK.2) (fun _ h => h) hown hK.1 hP 0 rfl rfl 0 (by decide) (hw kw_45) (fun _ h9 => h9) rfl d_Mk_finishPage_57 ?_
    refine va_getN (host := "PictureFile") (D := D) (ci := 0) (C := R_Row) (T := F_Row) (N := 2) hx hb (kl_Row hK.2) (fun _ h => h) hown hK.1 hP 1 rfl rfl 1 (by decide) (hw kw_64) (fun _ h9 => h9) rfl d_Mk_finishPage_60 ?_
    refine lv_istore_n (lv' := [(3, .int x12.2.2), (2, .int x10.2.2), (1, .int x1.2.2), (0, .ref h0)]) hx hb d_Mk_finishPage_63 rfl hl (by decide) rfl (fun ls hl => ?_)
    refine lv_aload_n hx hb d_Mk_finishPage_64 rfl (lv_at hl 3 rfl) ?_
    refine lv_iload_n hx hb d_Mk_finishPage_65 rfl (lv_at hl 2 rfl) ?_
    refine lv_iload_n hx hb d_Mk_finishPage_66 rfl (lv_at hl 1 rfl) ?_
    refine ct_fin (wr := []) (ct_runV (n := 2) (C := R_Mk) (b := h0) (As := [.int x1.2.2, .int x10.2.2]) (rest := []) hH (c_Mk_addDirectory h0 h1 q12ro h3 h4 mk x12 st ok12ro hst x1.2.2 x10.2.2 _) ⟨cal_Mk_addDirectory, ⟨Nat.le_of_ble_eq_true rfl, Nat.le_of_ble_eq_true rfl⟩, (by show gC 1024 ro.1 x12.1 + 1801 ≤ 2401; simp only [gC]; omega), (by show gS ro.1 x12.1 + 575536 ≤ 745536; simp only [gS]; omega)⟩ kw_105 kw_106 kw_61 kw_107 kw_108 (va_recv hK.1 hP (ci := 2) (q0 := 0) rfl rfl) (hP.sub (ws' := [(h0, .inr (2, [.ref h1, .ref h3, .int (mk 0), .int (mk 1), .int (mk 2), .int (mk 3), .int (mk 4), .int (mk 5), .int (mk 6), .int (mk 7), .int (mk 8), .int (mk 9), .int (mk 10), .int (mk 11)])), (h1, .inr (0, [.ref q12ro, .int x12.2.2])), (q12ro, .inl (cB, x12.1, .inl x12.2.1)), (h3, .inr (1, [.int 512, .ref h4, .int st.2.2])), (h4, .inl (cI, st.1, .inl st.2.1))]) [0, 1, 2, 3, 4] rfl) (hD.sub (ws' := [(h0, .inr (2, [.ref h1, .ref h3, .int (mk 0), .int (mk 1), .int (mk 2), .int (mk 3), .int (mk 4), .int (mk 5), .int (mk 6), .int (mk 7), .int (mk 8), .int (mk 9), .int (mk 10), .int (mk 11)])), (h1, .inr (0, [.ref q12ro, .int x12.2.2])), (q12ro, .inl (cB, x12.1, .inl x12.2.1)), (h3, .inr (1, [.int 512, .ref h4, .int st.2.2])), (h4, .inl (cI, st.1, .inl st.2.1))]) [0, 1, 2, 3, 4] rfl rfl) rfl hl.1 (Nat.le_of_ble_eq_true rfl) d_Mk_finishPage_67) hP hD hS hA [0, 1, 2, 3, 4] [] rfl rfl rfl (by decide) (fun u H locs hp hP hD hS => ?_)
    obtain ⟨q13ro, x13⟩ := u
    obtain ⟨e13, ok13ro, mo13ro⟩ := hp
    try dsimp only at e13 ok13ro mo13ro
    have bo13ro := RowOK.le ok13ro
    have hP : va_P D classes [(h0, .inr (2, [.ref h1, .ref h3, .int (mk 0), .int (mk 1), .int (mk 2), .int (mk 3), .int (mk 4), .int (mk 5), .int (mk 6), .int (mk 7), .int (mk 8), .int (mk 9), .int (mk 10), .int (mk 11)])), (h1, .inr (0, [.ref q13ro, .int x13.2.2])), (q13ro, .inl (cB, x13.1, .inl x13.2.1)), (h3, .inr (1, [.int 512, .ref h4, .int st.2.2])), (h4, .inl (cI, st.1, .inl st.2.1))] H := hP
    have hD : va_D A [(h0, .inr (2, [.ref h1, .ref h3, .int (mk 0), .int (mk 1), .int (mk 2), .int (mk 3), .int (mk 4), .int (mk 5), .int (mk 6), .int (mk 7), .int (mk 8), .int (mk 9), .int (mk 10), .int (mk 11)])), (h1, .inr (0, [.ref q13ro, .int x13.2.2])), (q13ro, .inl (cB, x13.1, .inl x13.2.1)), (h3, .inr (1, [.int 512, .ref h4, .int st.2.2])), (h4, .inl (cI, st.1, .inl st.2.1))] := hD
    refine W.widen (k := gC 1024 ro.1 x13.1) (n := gS ro.1 x13.1) (by rw [← e13]; simp only [gC]; omega) (by rw [← e13]; simp only [gS]; omega) ?_
    refine W.eq (g2 := F0 m 70 ls []) rfl ?_
    refine lv_aload_n hx hb d_Mk_finishPage_70 rfl (lv_at hl 3 rfl) ?_
    refine va_get (D := D) (ci := 2) (C := R_Mk) (T := F_Mk) (N := 14) hx hb (kl_Mk hK.2) (fun _ h => h) hown hK.1 hP 0 rfl rfl 0 (by decide) (hw kw_45) (fun _ h9 => h9) rfl d_Mk_finishPage_71 ?_
    refine lv_aload_n hx hb d_Mk_finishPage_74 rfl (lv_at hl 3 rfl) ?_
    refine va_get (D := D) (ci := 2) (C := R_Mk) (T := F_Mk) (N := 14) hx hb (kl_Mk hK.2) (fun _ h => h) hown hK.1 hP 0 rfl rfl 6 (by decide) (hw kw_58) (fun _ h9 => h9) rfl d_Mk_finishPage_75 ?_
    refine lv_iload_n hx hb d_Mk_finishPage_78 rfl (lv_at hl 0 rfl) ?_
    refine lv_i2l hx hb d_Mk_finishPage_79 rfl ?_
    refine lv_aload_n hx hb d_Mk_finishPage_80 rfl (lv_at hl 3 rfl) ?_
    refine va_get (D := D) (ci := 2) (C := R_Mk) (T := F_Mk) (N := 14) hx hb (kl_Mk hK.2) (fun _ h => h) hown hK.1 hP 0 rfl rfl 4 (by decide) (hw kw_46) (fun _ h9 => h9) rfl d_Mk_finishPage_81 ?_
    refine ct_fin (wr := [(h0, .inr (2, [.ref h1, .ref h3, .int (mk 0), .int (mk 1), .int (mk 2), .int (mk 3), .int (mk 4), .int (mk 5), .int (mk 6), .int (mk 7), .int (mk 8), .int (mk 9), .int (mk 10), .int (mk 11)])), (h3, .inr (1, [.int 512, .ref h4, .int st.2.2])), (h4, .inl (cI, st.1, .inl st.2.1))]) (ct_runVN (host := "PictureFile") (n := 3) (C := R_Row) (b := h1) (As := [.int (mk 4), .long x12.2.2.toInt64, .int (mk 2)]) (rest := []) hH (c_Row_replaceLong h1 q13ro x13 ok13ro (mk 4) x12.2.2.toInt64 (mk 2) _) ⟨cal_Row_replaceLong, ⟨Nat.le_of_ble_eq_true rfl, Nat.le_of_ble_eq_true rfl⟩, (by show gC 1024 ro.1 x13.1 + 600 ≤ 2401; simp only [gC]; omega), (by show gS ro.1 x13.1 + 170000 ≤ 745536; simp only [gS]; omega)⟩ kw_109 kw_110 kw_24 kw_111 kw_112 (va_recv hK.1 hP (ci := 0) (q0 := 1) rfl rfl) (hP.sub (ws' := [(h1, .inr (0, [.ref q13ro, .int x13.2.2])), (q13ro, .inl (cB, x13.1, .inl x13.2.1))]) [1, 2] rfl) (hD.sub (ws' := [(h1, .inr (0, [.ref q13ro, .int x13.2.2])), (q13ro, .inl (cB, x13.1, .inl x13.2.1))]) [1, 2] rfl rfl) rfl hl.1 (Nat.le_of_ble_eq_true rfl) d_Mk_finishPage_84) hP hD hS hA [1, 2] [0, 3, 4] rfl rfl rfl (by decide) (fun u H locs hp hP hD hS => ?_)
    obtain ⟨q14ro, x14⟩ := u
    obtain ⟨e14, ok14ro, mo14ro⟩ := hp
    try dsimp only at e14 ok14ro mo14ro
    have bo14ro := RowOK.le ok14ro
    have hP : va_P D classes [(h0, .inr (2, [.ref h1, .ref h3, .int (mk 0), .int (mk 1), .int (mk 2), .int (mk 3), .int (mk 4), .int (mk 5), .int (mk 6), .int (mk 7), .int (mk 8), .int (mk 9), .int (mk 10), .int (mk 11)])), (h3, .inr (1, [.int 512, .ref h4, .int st.2.2])), (h4, .inl (cI, st.1, .inl st.2.1)), (h1, .inr (0, [.ref q14ro, .int x14.2.2])), (q14ro, .inl (cB, x14.1, .inl x14.2.1))] H := hP
    have hD : va_D A [(h0, .inr (2, [.ref h1, .ref h3, .int (mk 0), .int (mk 1), .int (mk 2), .int (mk 3), .int (mk 4), .int (mk 5), .int (mk 6), .int (mk 7), .int (mk 8), .int (mk 9), .int (mk 10), .int (mk 11)])), (h3, .inr (1, [.int 512, .ref h4, .int st.2.2])), (h4, .inl (cI, st.1, .inl st.2.1)), (h1, .inr (0, [.ref q14ro, .int x14.2.2])), (q14ro, .inl (cB, x14.1, .inl x14.2.1))] := hD
    refine W.widen (k := gC 1024 ro.1 x14.1) (n := gS ro.1 x14.1) (by rw [← e14]; simp only [gC]; omega) (by rw [← e14]; simp only [gS]; omega) ?_
    refine W.eq (g2 := F0 m 87 ls []) rfl ?_
    refine lv_aload_n hx hb d_Mk_finishPage_87 rfl (lv_at hl 3 rfl) ?_
    refine lv_iload_n hx hb d_Mk_finishPage_88 rfl (lv_at hl 0 rfl) ?_
    refine lv_bipush (v := 122) hx hb d_Mk_finishPage_89 (by decide) ?_
    refine lv_iadd hx hb d_Mk_finishPage_91 ?_
    refine lv_topi (fun y15 e15 => ?_)
    refine va_put (D := D) (ci := 2) (v := .int y15) (ty := .int) (C := R_Mk) (T := F_Mk) (N := 14) hx hb (kl_Mk hK.2) (fun _ h => h) t_Mk t_Mk_ok n_Mk hown hK.1 hP hD hS 0 rfl rfl 6 (by decide) (hw kw_58) (fun _ h9 => h9) rfl (t_Mk_ok 6 (by decide)) rfl rfl (Nat.le_of_ble_eq_true rfl) d_Mk_finishPage_92 (fun H locs hP hD hS => ?_)
    have hP : va_P D classes [(h0, .inr (2, [.ref h1, .ref h3, .int (mk 0), .int (mk 1), .int (mk 2), .int (mk 3), .int y15, .int (mk 5), .int (mk 6), .int (mk 7), .int (mk 8), .int (mk 9), .int (mk 10), .int (mk 11)])), (h3, .inr (1, [.int 512, .ref h4, .int st.2.2])), (h4, .inl (cI, st.1, .inl st.2.1)), (h1, .inr (0, [.ref q14ro, .int x14.2.2])), (q14ro, .inl (cB, x14.1, .inl x14.2.1))] H := hP
    have hD : va_D A [(h0, .inr (2, [.ref h1, .ref h3, .int (mk 0), .int (mk 1), .int (mk 2), .int (mk 3), .int y15, .int (mk 5), .int (mk 6), .int (mk 7), .int (mk 8), .int (mk 9), .int (mk 10), .int (mk 11)])), (h3, .inr (1, [.int 512, .ref h4, .int st.2.2])), (h4, .inl (cI, st.1, .inl st.2.1)), (h1, .inr (0, [.ref q14ro, .int x14.2.2])), (q14ro, .inl (cB, x14.1, .inl x14.2.1))] := hD
    refine lv_aload_n hx hb d_Mk_finishPage_95 rfl (lv_at hl 3 rfl) ?_
    refine lv_dup hx hb d_Mk_finishPage_96 rfl ?_
    refine va_get (D := D) (ci := 2) (C := R_Mk) (T := F_Mk) (N := 14) hx hb (kl_Mk hK.2) (fun _ h => h) hown hK.1 hP 0 rfl rfl 5 (by decide) (hw kw_57) (fun _ h9 => h9) rfl d_Mk_finishPage_97 ?_
    refine lv_iconst (v := 1) hx hb d_Mk_finishPage_100 (by decide) ?_
    refine lv_iadd hx hb d_Mk_finishPage_101 ?_
    refine lv_topi (fun y16 e16 => ?_)
    refine va_put (D := D) (ci := 2) (v := .int y16) (ty := .int) (C := R_Mk) (T := F_Mk) (N := 14) hx hb (kl_Mk hK.2) (fun _ h => h) t_Mk t_Mk_ok n_Mk hown hK.1 hP hD hS 0 rfl rfl 5 (by decide) (hw kw_57) (fun _ h9 => h9) rfl (t_Mk_ok 5 (by decide)) rfl rfl (Nat.le_of_ble_eq_true rfl) d_Mk_finishPage_102 (fun H locs hP hD hS => ?_)
    have hP : va_P D classes [(h0, .inr (2, [.ref h1, .ref h3, .int (mk 0), .int (mk 1), .int (mk 2), .int y16, .int y15, .int (mk 5), .int (mk 6), .int (mk 7), .int (mk 8), .int (mk 9), .int (mk 10), .int (mk 11)])), (h3, .inr (1, [.int 512, .ref h4, .int st.2.2])), (h4, .inl (cI, st.1, .inl st.2.1)), (h1, .inr (0, [.ref q14ro, .int x14.2.2])), (q14ro, .inl (cB, x14.1, .inl x14.2.1))] H := hP
    have hD : va_D A [(h0, .inr (2, [.ref h1, .ref h3, .int (mk 0), .int (mk 1), .int (mk 2), .int y16, .int y15, .int (mk 5), .int (mk 6), .int (mk 7), .int (mk 8), .int (mk 9), .int (mk 10), .int (mk 11)])), (h3, .inr (1, [.int 512, .ref h4, .int st.2.2])), (h4, .inl (cI, st.1, .inl st.2.1)), (h1, .inr (0, [.ref q14ro, .int x14.2.2])), (q14ro, .inl (cB, x14.1, .inl x14.2.1))] := hD
    refine lv_aload_n hx hb d_Mk_finishPage_105 rfl (lv_at hl 3 rfl) ?_
    refine ct_fin (wr := []) (ct_runV (n := 0) (C := R_Mk) (b := h0) (As := []) (rest := []) hH (c_Mk_leavePage h0 h1 q14ro h3 h4 (upd (upd mk 3 y16) 4 y15) x14 st ok14ro hst _) ⟨cal_Mk_leavePage, ⟨Nat.le_of_ble_eq_true rfl, Nat.le_of_ble_eq_true rfl⟩, (by show gC 1024 ro.1 x14.1 + 0 ≤ 2401; simp only [gC]; omega), (by show gS ro.1 x14.1 + 0 ≤ 745536; simp only [gS]; omega)⟩ kw_59 kw_60 kw_61 kw_62 kw_63 (va_recv hK.1 hP (ci := 2) (q0 := 0) rfl rfl) (hP.sub (ws' := [(h0, .inr (2, [.ref h1, .ref h3, .int (mk 0), .int (mk 1), .int (mk 2), .int y16, .int y15, .int (mk 5), .int (mk 6), .int (mk 7), .int (mk 8), .int (mk 9), .int (mk 10), .int (mk 11)])), (h1, .inr (0, [.ref q14ro, .int x14.2.2])), (q14ro, .inl (cB, x14.1, .inl x14.2.1)), (h3, .inr (1, [.int 512, .ref h4, .int st.2.2])), (h4, .inl (cI, st.1, .inl st.2.1))]) [0, 3, 4, 1, 2] rfl) (hD.sub (ws' := [(h0, .inr (2, [.ref h1, .ref h3, .int (mk 0), .int (mk 1), .int (mk 2), .int y16, .int y15, .int (mk 5), .int (mk 6), .int (mk 7), .int (mk 8), .int (mk 9), .int (mk 10), .int (mk 11)])), (h1, .inr (0, [.ref q14ro, .int x14.2.2])), (q14ro, .inl (cB, x14.1, .inl x14.2.1)), (h3, .inr (1, [.int 512, .ref h4, .int st.2.2])), (h4, .inl (cI, st.1, .inl st.2.1))]) [0, 3, 4, 1, 2] rfl rfl) rfl hl.1 (Nat.le_of_ble_eq_true rfl) d_Mk_finishPage_106) hP hD hS hA [0, 3, 4, 1, 2] [] rfl rfl rfl (by decide) (fun u H locs hp hP hD hS => ?_)
    obtain ⟨q17st, x17⟩ := u
    obtain ⟨e17, ok17st, mo17st⟩ := hp
    try dsimp only at e17 ok17st mo17st
    have bo17st := StOK.le ok17st
    have hP : va_P D classes [(h0, .inr (2, [.ref h1, .ref h3, .int (x17.1 0), .int (x17.1 1), .int (x17.1 2), .int (x17.1 3), .int (x17.1 4), .int (x17.1 5), .int (x17.1 6), .int (x17.1 7), .int (x17.1 8), .int (x17.1 9), .int (x17.1 10), .int (x17.1 11)])), (h1, .inr (0, [.ref q14ro, .int x14.2.2])), (q14ro, .inl (cB, x14.1, .inl x14.2.1)), (h3, .inr (1, [.int 512, .ref q17st, .int x17.2.2.2])), (q17st, .inl (cI, x17.2.1, .inl x17.2.2.1))] H := hP
    have hD : va_D A [(h0, .inr (2, [.ref h1, .ref h3, .int (x17.1 0), .int (x17.1 1), .int (x17.1 2), .int (x17.1 3), .int (x17.1 4), .int (x17.1 5), .int (x17.1 6), .int (x17.1 7), .int (x17.1 8), .int (x17.1 9), .int (x17.1 10), .int (x17.1 11)])), (h1, .inr (0, [.ref q14ro, .int x14.2.2])), (q14ro, .inl (cB, x14.1, .inl x14.2.1)), (h3, .inr (1, [.int 512, .ref q17st, .int x17.2.2.2])), (q17st, .inl (cI, x17.2.1, .inl x17.2.2.1))] := hD
    refine W.widen (k := gC 1024 ro.1 x14.1 + gC 32 st.1 x17.2.1) (n := gS ro.1 x14.1 + gS st.1 x17.2.1) (by rw [← e17]; simp only [gC]; omega) (by rw [← e17]; simp only [gS]; omega) ?_
    refine W.eq (g2 := F0 m 109 ls []) rfl ?_
    have ef : M_Mk_finishPage mk ro st = (x17.1, x14, x17.2) := by unfold M_Mk_finishPage; (try dsimp only); (try rw [← e1]); rw [if_neg c_1]; (try rw [← e9]); (try rw [← e10]); (try rw [← e11]); (try rw [← e12]); (try rw [← e13]); (try rw [← e14]); (try rw [← e15]); (try rw [← e16]); (try rw [← e17])
    exact ct_vret hx hb hr hlocks d_Mk_finishPage_109 ⟨by rw [ef]; simp only [gC]; omega, by rw [ef]; simp only [gS]; omega⟩ hQ hAe hS (q14ro, q17st, (x17.1, x14, x17.2)) rfl ⟨ef.symm, ok14ro, (by show ro.1 ≤ x14.1; omega), ok17st, (by show st.1 ≤ x17.2.1; omega)⟩ (hP.sub [0, 1, 2, 3, 4] rfl) (hD.sub [0, 1, 2, 3, 4] rfl rfl)
set_option maxHeartbeats 4000000 in
set_option maxRecDepth 100000 in
theorem c_Pn_get {l : Launch} {D : va_G} {cB cI cJ : ClassId} (h0 h1 : Nat) (nu : Nat → Int64) (p0 : Int32) (p1 : Int32) : CtP classes BW l D (TY cB cI cJ) y_Pn_get b_Pn_get 4 (some .long) ({ frames := 0, cells := 0, slots := 0, locals := 0 } : Room) [.ref h0, .int p0, .int p1] [(h0, .inr (3, [.ref h1])), (h1, .inl (cJ, 520, .inr (.inl nu)))] (some (.long (M_Pn_get nu p0 p1))) := by
  refine CtP.intro (by decide +kernel) (Nat.le_of_ble_eq_true rfl) ?_
  intro p e s m below meth c hx hb hr hml hlocks hnm hown hK hS hP hD ls hl Q hQ
  have hown : s.vm.findClass "PictureFile$PageNumbers" = some m.cls := hown
  have hH : Hold classes BW D (TY cB cI cJ) p s m c b_Pn_get 4 "PictureFile$PageNumbers" := ⟨bw_ok, hx, hb, hml, hown, hK⟩
  have hw : ∀ {w : Cond}, w ∈ BW → w.before ([.ref h0, .int p0, .int p1] : List Value).toArray s = true := fun h => Wd.at bw_ok hK.2 h
  have hl : lv_has ls 4 [(0, .ref h0), (1, .int p0), (2, .int p1)] := hl
  refine lv_iload_n hx hb d_Pn_get_0 rfl (lv_at hl 1 rfl) ?_
  refine lv_bipush (v := 13) hx hb d_Pn_get_1 (by decide) ?_
  refine lv_imul hx hb d_Pn_get_3 ?_
  refine lv_iload_n hx hb d_Pn_get_4 rfl (lv_at hl 2 rfl) ?_
  refine lv_iadd hx hb d_Pn_get_5 ?_
  refine lv_istore_n (lv' := [(3, .int ((p0 * 13) + p1)), (0, .ref h0), (1, .int p0), (2, .int p1)]) hx hb d_Pn_get_6 rfl hl (by decide) rfl (fun ls hl => ?_)
  refine lv_iload_n hx hb d_Pn_get_7 rfl (lv_at hl 0 rfl) ?_
  refine lv_if_lt (tgt := 29) hx hb d_Pn_get_8 (by decide) (fun c_1 => ?_) (fun c_1 => ?_)
  · refine lv_lconst (v := 0) hx hb d_Pn_get_29 (by decide) ?_
    have ef : M_Pn_get nu p0 p1 = 0 := by unfold M_Pn_get; (try dsimp only); rw [if_pos c_1]
    exact ct_plret hx hb hr hlocks d_Pn_get_30 hQ hS (by rw [ef])
  · refine lv_iload_n hx hb d_Pn_get_11 rfl (lv_at hl 0 rfl) ?_
    refine lv_aload_n hx hb d_Pn_get_12 rfl (lv_at hl 1 rfl) ?_
    refine va_get (D := D) (ci := 3) (C := R_Pn) (T := F_Pn) (N := 1) hx hb (kl_Pn hK.2) (fun _ h => h) hown hK.1 hP 0 rfl rfl 0 (by decide) (hw kw_117) (fun _ h9 => h9) rfl d_Pn_get_13 ?_
    refine va_alen (v := nI 520) hx hb hK.1 hP 1 2 rfl rfl rfl d_Pn_get_16 ?_
    refine lv_icmp_ge (tgt := 29) hx hb d_Pn_get_17 (by decide) (fun c_2 => ?_) (fun c_2 => ?_)
    · refine lv_lconst (v := 0) hx hb d_Pn_get_29 (by decide) ?_
      have ef : M_Pn_get nu p0 p1 = 0 := by unfold M_Pn_get; (try dsimp only); rw [if_neg c_1]; rw [if_pos c_2]
      exact ct_plret hx hb hr hlocks d_Pn_get_30 hQ hS (by rw [ef])
    · refine lv_aload_n hx hb d_Pn_get_20 rfl (lv_at hl 1 rfl) ?_
      refine va_get (D := D) (ci := 3) (C := R_Pn) (T := F_Pn) (N := 1) hx hb (kl_Pn hK.2) (fun _ h => h) hown hK.1 hP 0 rfl rfl 0 (by decide) (hw kw_117) (fun _ h9 => h9) rfl d_Pn_get_21 ?_
      refine lv_iload_n hx hb d_Pn_get_24 rfl (lv_at hl 0 rfl) ?_
      refine va_lald hx hb hK.1 hP 1 2 rfl rfl (vp_int c_1 c_2 (by omega)) d_Pn_get_25 ?_
      refine lv_goto (tgt := 30) hx hb d_Pn_get_26 (by decide) ?_
      have ef : M_Pn_get nu p0 p1 = (nu ((p0 * 13) + p1).toNatClampNeg) := by unfold M_Pn_get; (try dsimp only); rw [if_neg c_1]; rw [if_neg c_2]
      exact ct_plret hx hb hr hlocks d_Pn_get_30 hQ hS (by rw [ef])
set_option maxHeartbeats 4000000 in
set_option maxRecDepth 100000 in
theorem c_Pn_set {l : Launch} {D : va_G} {cB cI cJ : ClassId} (h0 h1 : Nat) (nu : Nat → Int64) (p0 : Int32) (p1 : Int32) (p2 : Int64) : Ct classes BW l D (TY cB cI cJ) y_Pn_set b_Pn_set 6 none ({ frames := 0, cells := 0, slots := 0, locals := 0 } : Room) [.ref h0, .int p0, .int p1, .long p2] [(h0, .inr (3, [.ref h1])), (h1, .inl (cJ, 520, .inr (.inl nu)))] (fun u : (Nat → Int64) => u = M_Pn_set nu p0 p1 p2) (fun u => none) (fun u => [(h0, .inr (3, [.ref h1])), (h1, .inl (cJ, 520, .inr (.inl u)))]) (0) (0) := by
  refine Ct.intro (by decide +kernel) (Nat.le_of_ble_eq_true rfl) ?_
  intro p e s m below meth c hx hb hr hml hlocks hnm hown hK A hAe hA hS hP hD ls hl Q hQ
  have hown : s.vm.findClass "PictureFile$PageNumbers" = some m.cls := hown
  have hH : Hold classes BW D (TY cB cI cJ) p s m c b_Pn_set 6 "PictureFile$PageNumbers" := ⟨bw_ok, hx, hb, hml, hown, hK⟩
  have hw : ∀ {w : Cond}, w ∈ BW → w.before ([.ref h0, .int p0, .int p1, .long p2] : List Value).toArray s = true := fun h => Wd.at bw_ok hK.2 h
  have hl : lv_has ls 6 [(0, .ref h0), (1, .int p0), (2, .int p1), (3, .long p2)] := hl
  refine lv_iload_n hx hb d_Pn_set_0 rfl (lv_at hl 1 rfl) ?_
  refine lv_bipush (v := 13) hx hb d_Pn_set_1 (by decide) ?_
  refine lv_imul hx hb d_Pn_set_3 ?_
  refine lv_iload_n hx hb d_Pn_set_4 rfl (lv_at hl 2 rfl) ?_
  refine lv_iadd hx hb d_Pn_set_5 ?_
  refine lv_istore (lv' := [(5, .int ((p0 * 13) + p1)), (0, .ref h0), (1, .int p0), (2, .int p1), (3, .long p2)]) hx hb d_Pn_set_6 hl (by decide) rfl (fun ls hl => ?_)
  refine lv_iload hx hb d_Pn_set_8 (lv_at hl 0 rfl) ?_
  refine lv_if_lt (tgt := 31) hx hb d_Pn_set_10 (by decide) (fun c_1 => ?_) (fun c_1 => ?_)
  · have ef : M_Pn_set nu p0 p1 p2 = nu := by unfold M_Pn_set; (try dsimp only); rw [if_pos c_1]
    exact ct_vret hx hb hr hlocks d_Pn_set_31 ⟨Nat.zero_le _, Nat.zero_le _⟩ hQ hAe hS nu rfl ef.symm (hP.sub [0, 1] rfl) (hD.sub [0, 1] rfl rfl)
  · refine lv_iload hx hb d_Pn_set_13 (lv_at hl 0 rfl) ?_
    refine lv_aload_n hx hb d_Pn_set_15 rfl (lv_at hl 1 rfl) ?_
    refine va_get (D := D) (ci := 3) (C := R_Pn) (T := F_Pn) (N := 1) hx hb (kl_Pn hK.2) (fun _ h => h) hown hK.1 hP 0 rfl rfl 0 (by decide) (hw kw_117) (fun _ h9 => h9) rfl d_Pn_set_16 ?_
    refine va_alen (v := nI 520) hx hb hK.1 hP 1 2 rfl rfl rfl d_Pn_set_19 ?_
    refine lv_icmp_ge (tgt := 31) hx hb d_Pn_set_20 (by decide) (fun c_2 => ?_) (fun c_2 => ?_)
    · have ef : M_Pn_set nu p0 p1 p2 = nu := by unfold M_Pn_set; (try dsimp only); rw [if_neg c_1]; rw [if_pos c_2]
      exact ct_vret hx hb hr hlocks d_Pn_set_31 ⟨Nat.zero_le _, Nat.zero_le _⟩ hQ hAe hS nu rfl ef.symm (hP.sub [0, 1] rfl) (hD.sub [0, 1] rfl rfl)
    · refine lv_aload_n hx hb d_Pn_set_23 rfl (lv_at hl 1 rfl) ?_
      refine va_get (D := D) (ci := 3) (C := R_Pn) (T := F_Pn) (N := 1) hx hb (kl_Pn hK.2) (fun _ h => h) hown hK.1 hP 0 rfl rfl 0 (by decide) (hw kw_117) (fun _ h9 => h9) rfl d_Pn_set_24 ?_
      refine lv_iload hx hb d_Pn_set_27 (lv_at hl 0 rfl) ?_
      refine lv_lload_n hx hb d_Pn_set_29 rfl (lv_at hl 4 rfl) ?_
      refine va_last hx hb hK.1 hP hD hS 1 2 rfl rfl (vp_int c_1 c_2 (by omega)) d_Pn_set_30 (fun H locs hP hD hS => ?_)
      have hP : va_P D classes [(h0, .inr (3, [.ref h1])), (h1, .inl (cJ, 520, .inr (.inl (vp_updL nu ((p0 * 13) + p1).toNatClampNeg p2))))] H := hP
      have hD : va_D A [(h0, .inr (3, [.ref h1])), (h1, .inl (cJ, 520, .inr (.inl (vp_updL nu ((p0 * 13) + p1).toNatClampNeg p2))))] := hD
      have ef : M_Pn_set nu p0 p1 p2 = (vp_updL nu ((p0 * 13) + p1).toNatClampNeg p2) := by unfold M_Pn_set; (try dsimp only); rw [if_neg c_1]; rw [if_neg c_2]
      exact ct_vret hx hb hr hlocks d_Pn_set_31 ⟨Nat.zero_le _, Nat.zero_le _⟩ hQ hAe hS (vp_updL nu ((p0 * 13) + p1).toNatClampNeg p2) rfl ef.symm (hP.sub [0, 1] rfl) (hD.sub [0, 1] rfl rfl)
