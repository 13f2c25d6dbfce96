set_option maxHeartbeats 4000000 in
set_option maxRecDepth 100000 in
theorem c_Mk_finishStrip {l : Launch} {D : va_G} {cB cI cJ : ClassId} (h0 h1 h2 h3 h4 : Nat) (mk : Nat → Int32) (ro : RowS) (st : RowS) (hro : RowOK ro) (hst : StOK 512 st) : Ct classes BW l D (TY cB cI cJ) y_Mk_finishStrip b_Mk_finishStrip 1 none ({ frames := 4, cells := 601, slots := 235536, locals := 123 } : Room) [.ref h0] [(h0, .inr (2, [.ref h1, .ref h3, .int (mk 0), .int (mk 1), .int (mk 2), .int (mk 3), .int (mk 4), .int (mk 5), .int (mk 6), .int (mk 7), .int (mk 8), .int (mk 9), .int (mk 10), .int (mk 11)])), (h1, .inr (0, [.ref h2, .int ro.2.2])), (h2, .inl (cB, ro.1, .inl ro.2.1)), (h3, .inr (1, [.int 512, .ref h4, .int st.2.2])), (h4, .inl (cI, st.1, .inl st.2.1))] (fun u : Nat × Nat × (Nat → Int32) × RowS × RowS => u.2.2 = M_Mk_finishStrip mk ro st ∧ RowOK u.2.2.2.1 ∧ ro.1 ≤ u.2.2.2.1.1 ∧ StOK 512 u.2.2.2.2 ∧ st.1 ≤ u.2.2.2.2.1) (fun u => none) (fun u => [(h0, .inr (2, [.ref h1, .ref h3, .int (u.2.2.1 0), .int (u.2.2.1 1), .int (u.2.2.1 2), .int (u.2.2.1 3), .int (u.2.2.1 4), .int (u.2.2.1 5), .int (u.2.2.1 6), .int (u.2.2.1 7), .int (u.2.2.1 8), .int (u.2.2.1 9), .int (u.2.2.1 10), .int (u.2.2.1 11)])), (h1, .inr (0, [.ref u.1, .int u.2.2.2.1.2.2])), (u.1, .inl (cB, u.2.2.2.1.1, .inl u.2.2.2.1.2.1)), (h3, .inr (1, [.int 512, .ref u.2.1, .int u.2.2.2.2.2.2])), (u.2.1, .inl (cI, u.2.2.2.2.1, .inl u.2.2.2.2.2.1))]) (gC 1024 ro.1 (M_Mk_finishStrip mk ro st).2.1.1 + gC 32 st.1 (M_Mk_finishStrip mk ro st).2.2.1) (gS ro.1 (M_Mk_finishStrip mk ro st).2.1.1 + gS st.1 (M_Mk_finishStrip mk ro st).2.2.1) := by
  refine Ct.intro (by decide +kernel) (Nat.le_of_ble_eq_true rfl) ?_
  intro p e s m below meth c hx hb hr hml hlocks hnm hown hK A hAe hA hS hP hD ls hl Q hQ
  have hown : s.vm.findClass "PictureFile$Maker" = some m.cls := hown
  have hH : Hold classes BW D (TY cB cI cJ) p s m c b_Mk_finishStrip 1 "PictureFile$Maker" := ⟨bw_ok, hx, hb, hml, hown, hK⟩
  have hw : ∀ {w : Cond}, w ∈ BW → w.before ([.ref h0] : List Value).toArray s = true := fun h => Wd.at bw_ok hK.2 h
  have hl : lv_has ls 1 [(0, .ref h0)] := hl
  have bo0ro := RowOK.le hro
  have bo0st := StOK.le hst
  refine lv_aload_n hx hb d_Mk_finishStrip_0 rfl (lv_at hl 0 rfl) ?_
  refine va_get (D := D) (ci := 2) (C := R_Mk) (T := F_Mk) (N := 14) hx hb (kl_Mk hK.2) (fun _ h => h) hown hK.1 hP 0 rfl rfl 13 (by decide) (hw kw_53) (fun _ h9 => h9) rfl d_Mk_finishStrip_1 ?_
  refine lv_if_ne (tgt := 14) hx hb d_Mk_finishStrip_4 (by decide) (fun c_1 => ?_) (fun c_1 => ?_)
  · refine lv_aload_n hx hb d_Mk_finishStrip_14 rfl (lv_at hl 0 rfl) ?_
    refine va_get (D := D) (ci := 2) (C := R_Mk) (T := F_Mk) (N := 14) hx hb (kl_Mk hK.2) (fun _ h => h) hown hK.1 hP 0 rfl rfl 1 (by decide) (hw kw_54) (fun _ h9 => h9) rfl d_Mk_finishStrip_15 ?_
    refine lv_aload_n hx hb d_Mk_finishStrip_18 rfl (lv_at hl 0 rfl) ?_
    refine va_get (D := D) (ci := 2) (C := R_Mk) (T := F_Mk) (N := 14) hx hb (kl_Mk hK.2) (fun _ h => h) hown hK.1 hP 0 rfl rfl 0 (by decide) (hw kw_45) (fun _ h9 => h9) rfl d_Mk_finishStrip_19 ?_
    refine va_getN (host := "PictureFile") (D := D) (ci := 0) (C := R_Row) (T := F_Row) (N := 2) hx hb (kl_Row hK.2) (fun _ h => h) hown hK.1 hP 1 rfl rfl 1 (by decide) (hw kw_64) (fun _ h9 => h9) rfl d_Mk_finishStrip_22 ?_
    refine lv_aload_n hx hb d_Mk_finishStrip_25 rfl (lv_at hl 0 rfl) ?_
    refine va_get (D := D) (ci := 2) (C := R_Mk) (T := F_Mk) (N := 14) hx hb (kl_Mk hK.2) (fun _ h => h) hown hK.1 hP 0 rfl rfl 13 (by decide) (hw kw_53) (fun _ h9 => h9) rfl d_Mk_finishStrip_26 ?_
    refine lv_isub hx hb d_Mk_finishStrip_29 ?_
    refine lv_aload_n hx hb d_Mk_finishStrip_30 rfl (lv_at hl 0 rfl) ?_
    refine va_get (D := D) (ci := 2) (C := R_Mk) (T := F_Mk) (N := 14) hx hb (kl_Mk hK.2) (fun _ h => h) hown hK.1 hP 0 rfl rfl 13 (by decide) (hw kw_53) (fun _ h9 => h9) rfl d_Mk_finishStrip_31 ?_
    refine ct_fin (wr := [(h0, .inr (2, [.ref h1, .ref h3, .int (mk 0), .int (mk 1), .int (mk 2), .int (mk 3), .int (mk 4), .int (mk 5), .int (mk 6), .int (mk 7), .int (mk 8), .int (mk 9), .int (mk 10), .int (mk 11)])), (h1, .inr (0, [.ref h2, .int ro.2.2])), (h2, .inl (cB, ro.1, .inl ro.2.1))]) (ct_runVN (host := "PictureFile") (n := 2) (C := R_St) (b := h3) (As := [.int (ro.2.2 - (mk 11)), .int (mk 11)]) (rest := []) hH (c_St_add h3 h4 512 st hst (ro.2.2 - (mk 11)) (mk 11) _) ⟨cal_St_add, ⟨Nat.le_of_ble_eq_true rfl, Nat.le_of_ble_eq_true rfl⟩, (Nat.le_of_ble_eq_true rfl), (Nat.le_of_ble_eq_true rfl)⟩ kw_84 kw_85 kw_86 kw_87 kw_88 (va_recv hK.1 hP (ci := 1) (q0 := 3) rfl rfl) (hP.sub (ws' := [(h3, .inr (1, [.int 512, .ref h4, .int st.2.2])), (h4, .inl (cI, st.1, .inl st.2.1))]) [3, 4] rfl) (hD.sub (ws' := [(h3, .inr (1, [.int 512, .ref h4, .int st.2.2])), (h4, .inl (cI, st.1, .inl st.2.1))]) [3, 4] rfl rfl) rfl hl.1 (Nat.le_of_ble_eq_true rfl) d_Mk_finishStrip_34) hP hD hS hA [3, 4] [0, 1, 2] rfl rfl rfl (by decide) (fun u H locs hp hP hD hS => ?_)
    obtain ⟨q1st, x1⟩ := u
    obtain ⟨e1, ok1st, mo1st⟩ := hp
    try dsimp only at e1 ok1st mo1st
    have bo1st := StOK.le ok1st
    have hP : va_P D classes [(h0, .inr (2, [.ref h1, .ref h3, .int (mk 0), .int (mk 1), .int (mk 2), .int (mk 3), .int (mk 4), .int (mk 5), .int (mk 6), .int (mk 7), .int (mk 8), .int (mk 9), .int (mk 10), .int (mk 11)])), (h1, .inr (0, [.ref h2, .int ro.2.2])), (h2, .inl (cB, ro.1, .inl ro.2.1)), (h3, .inr (1, [.int 512, .ref q1st, .int x1.2.2])), (q1st, .inl (cI, x1.1, .inl x1.2.1))] H := hP
    have hD : va_D A [(h0, .inr (2, [.ref h1, .ref h3, .int (mk 0), .int (mk 1), .int (mk 2), .int (mk 3), .int (mk 4), .int (mk 5), .int (mk 6), .int (mk 7), .int (mk 8), .int (mk 9), .int (mk 10), .int (mk 11)])), (h1, .inr (0, [.ref h2, .int ro.2.2])), (h2, .inl (cB, ro.1, .inl ro.2.1)), (h3, .inr (1, [.int 512, .ref q1st, .int x1.2.2])), (q1st, .inl (cI, x1.1, .inl x1.2.1))] := hD
    refine W.widen (k := gC 32 st.1 x1.1) (n := gS st.1 x1.1) (by rw [← e1]; simp only [gC]; omega) (by rw [← e1]; simp only [gS]; omega) ?_
    refine W.eq (g2 := F0 m 37 ls []) rfl ?_
    refine lv_aload_n hx hb d_Mk_finishStrip_37 rfl (lv_at hl 0 rfl) ?_
    refine lv_iconst (v := 0) hx hb d_Mk_finishStrip_38 (by decide) ?_
    refine va_put (D := D) (ci := 2) (v := .int 0) (ty := .int) (C := R_Mk) (T := F_Mk) (N := 14) hx hb (kl_Mk hK.2) (fun _ h => h) t_Mk t_Mk_ok n_Mk hown hK.1 hP hD hS 0 rfl rfl 13 (by decide) (hw kw_53) (fun _ h9 => h9) rfl (t_Mk_ok 13 (by decide)) rfl rfl (Nat.le_of_ble_eq_true rfl) d_Mk_finishStrip_39 (fun H locs hP hD hS => ?_)
    have hP : va_P D classes [(h0, .inr (2, [.ref h1, .ref h3, .int (mk 0), .int (mk 1), .int (mk 2), .int (mk 3), .int (mk 4), .int (mk 5), .int (mk 6), .int (mk 7), .int (mk 8), .int (mk 9), .int (mk 10), .int 0])), (h1, .inr (0, [.ref h2, .int ro.2.2])), (h2, .inl (cB, ro.1, .inl ro.2.1)), (h3, .inr (1, [.int 512, .ref q1st, .int x1.2.2])), (q1st, .inl (cI, x1.1, .inl x1.2.1))] H := hP
    have hD : va_D A [(h0, .inr (2, [.ref h1, .ref h3, .int (mk 0), .int (mk 1), .int (mk 2), .int (mk 3), .int (mk 4), .int (mk 5), .int (mk 6), .int (mk 7), .int (mk 8), .int (mk 9), .int (mk 10), .int 0])), (h1, .inr (0, [.ref h2, .int ro.2.2])), (h2, .inl (cB, ro.1, .inl ro.2.1)), (h3, .inr (1, [.int 512, .ref q1st, .int x1.2.2])), (q1st, .inl (cI, x1.1, .inl x1.2.1))] := hD
    have ef : M_Mk_finishStrip mk ro st = ((upd mk 11 0), ro, x1) := by unfold M_Mk_finishStrip; (try dsimp only); rw [if_neg c_1]; (try rw [← e1])
    exact ct_vret hx hb hr hlocks d_Mk_finishStrip_42 ⟨by rw [ef]; simp only [gC]; omega, by rw [ef]; simp only [gS]; omega⟩ hQ hAe hS (h2, q1st, ((upd mk 11 0), ro, x1)) rfl ⟨ef.symm, hro, (by show ro.1 ≤ ro.1; omega), ok1st, (by show st.1 ≤ x1.1; omega)⟩ (hP.sub [0, 1, 2, 3, 4] rfl) (hD.sub [0, 1, 2, 3, 4] rfl rfl)
  · refine lv_aload_n hx hb d_Mk_finishStrip_7 rfl (lv_at hl 0 rfl) ?_
    refine va_get (D := D) (ci := 2) (C := R_Mk) (T := F_Mk) (N := 14) hx hb (kl_Mk hK.2) (fun _ h => h) hown hK.1 hP 0 rfl rfl 0 (by decide) (hw kw_45) (fun _ h9 => h9) rfl d_Mk_finishStrip_8 ?_
    refine ct_fin (wr := [(h0, .inr (2, [.ref h1, .ref h3, .int (mk 0), .int (mk 1), .int (mk 2), .int (mk 3), .int (mk 4), .int (mk 5), .int (mk 6), .int (mk 7), .int (mk 8), .int (mk 9), .int (mk 10), .int (mk 11)])), (h3, .inr (1, [.int 512, .ref h4, .int st.2.2])), (h4, .inl (cI, st.1, .inl st.2.1))]) (ct_runVN (host := "PictureFile") (n := 0) (C := R_Row) (b := h1) (As := []) (rest := []) hH (c_Row_makeEven h1 h2 ro hro _) ⟨cal_Row_makeEven, ⟨Nat.le_of_ble_eq_true rfl, Nat.le_of_ble_eq_true rfl⟩, (Nat.le_of_ble_eq_true rfl), (Nat.le_of_ble_eq_true rfl)⟩ kw_80 kw_81 kw_24 kw_82 kw_83 (va_recv hK.1 hP (ci := 0) (q0 := 1) rfl rfl) (hP.sub (ws' := [(h1, .inr (0, [.ref h2, .int ro.2.2])), (h2, .inl (cB, ro.1, .inl ro.2.1))]) [1, 2] rfl) (hD.sub (ws' := [(h1, .inr (0, [.ref h2, .int ro.2.2])), (h2, .inl (cB, ro.1, .inl ro.2.1))]) [1, 2] rfl rfl) rfl hl.1 (Nat.le_of_ble_eq_true rfl) d_Mk_finishStrip_11) hP hD hS hA [1, 2] [0, 3, 4] rfl rfl rfl (by decide) (fun u H locs hp hP hD hS => ?_)
    obtain ⟨q2ro, x2⟩ := u
    obtain ⟨e2, ok2ro, mo2ro⟩ := hp
    try dsimp only at e2 ok2ro mo2ro
    have bo2ro := RowOK.le ok2ro
    have hP : va_P D classes [(h0, .inr (2, [.ref h1, .ref h3, .int (mk 0), .int (mk 1), .int (mk 2), .int (mk 3), .int (mk 4), .int (mk 5), .int (mk 6), .int (mk 7), .int (mk 8), .int (mk 9), .int (mk 10), .int (mk 11)])), (h3, .inr (1, [.int 512, .ref h4, .int st.2.2])), (h4, .inl (cI, st.1, .inl st.2.1)), (h1, .inr (0, [.ref q2ro, .int x2.2.2])), (q2ro, .inl (cB, x2.1, .inl x2.2.1))] H := hP
    have hD : va_D A [(h0, .inr (2, [.ref h1, .ref h3, .int (mk 0), .int (mk 1), .int (mk 2), .int (mk 3), .int (mk 4), .int (mk 5), .int (mk 6), .int (mk 7), .int (mk 8), .int (mk 9), .int (mk 10), .int (mk 11)])), (h3, .inr (1, [.int 512, .ref h4, .int st.2.2])), (h4, .inl (cI, st.1, .inl st.2.1)), (h1, .inr (0, [.ref q2ro, .int x2.2.2])), (q2ro, .inl (cB, x2.1, .inl x2.2.1))] := hD
    refine W.widen (k := gC 1024 ro.1 x2.1) (n := gS ro.1 x2.1) (by rw [← e2]; simp only [gC]; omega) (by rw [← e2]; simp only [gS]; omega) ?_
    refine W.eq (g2 := F0 m 14 ls []) rfl ?_
    refine lv_aload_n hx hb d_Mk_finishStrip_14 rfl (lv_at hl 0 rfl) ?_
    refine va_get (D := D) (ci := 2) (C := R_Mk) (T := F_Mk) (N := 14) hx hb (kl_Mk hK.2) (fun _ h => h) hown hK.1 hP 0 rfl rfl 1 (by decide) (hw kw_54) (fun _ h9 => h9) rfl d_Mk_finishStrip_15 ?_
    refine lv_aload_n hx hb d_Mk_finishStrip_18 rfl (lv_at hl 0 rfl) ?_
    refine va_get (D := D) (ci := 2) (C := R_Mk) (T := F_Mk) (N := 14) hx hb (kl_Mk hK.2) (fun _ h => h) hown hK.1 hP 0 rfl rfl 0 (by decide) (hw kw_45) (fun _ h9 => h9) rfl d_Mk_finishStrip_19 ?_
    refine va_getN (host := "PictureFile") (D := D) (ci := 0) (C := R_Row) (T := F_Row) (N := 2) hx hb (kl_Row hK.2) (fun _ h => h) hown hK.1 hP 3 rfl rfl 1 (by decide) (hw kw_64) (fun _ h9 => h9) rfl d_Mk_finishStrip_22 ?_
    refine lv_aload_n hx hb d_Mk_finishStrip_25 rfl (lv_at hl 0 rfl) ?_
    refine va_get (D := D) (ci := 2) (C := R_Mk) (T := F_Mk) (N := 14) hx hb (kl_Mk hK.2) (fun _ h => h) hown hK.1 hP 0 rfl rfl 13 (by decide) (hw kw_53) (fun _ h9 => h9) rfl d_Mk_finishStrip_26 ?_
    refine lv_isub hx hb d_Mk_finishStrip_29 ?_
    refine lv_aload_n hx hb d_Mk_finishStrip_30 rfl (lv_at hl 0 rfl) ?_
    refine va_get (D := D) (ci := 2) (C := R_Mk) (T := F_Mk) (N := 14) hx hb (kl_Mk hK.2) (fun _ h => h) hown hK.1 hP 0 rfl rfl 13 (by decide) (hw kw_53) (fun _ h9 => h9) rfl d_Mk_finishStrip_31 ?_
    refine ct_fin (wr := [(h0, .inr (2, [.ref h1, .ref h3, .int (mk 0), .int (mk 1), .int (mk 2), .int (mk 3), .int (mk 4), .int (mk 5), .int (mk 6), .int (mk 7), .int (mk 8), .int (mk 9), .int (mk 10), .int (mk 11)])), (h1, .inr (0, [.ref q2ro, .int x2.2.2])), (q2ro, .inl (cB, x2.1, .inl x2.2.1))]) (ct_runVN (host := "PictureFile") (n := 2) (C := R_St) (b := h3) (As := [.int (x2.2.2 - (mk 11)), .int (mk 11)]) (rest := []) hH (c_St_add h3 h4 512 st hst (x2.2.2 - (mk 11)) (mk 11) _) ⟨cal_St_add, ⟨Nat.le_of_ble_eq_true rfl, Nat.le_of_ble_eq_true rfl⟩, (by show gC 1024 ro.1 x2.1 + 1 ≤ 601; simp only [gC]; omega), (by show gS ro.1 x2.1 + 65536 ≤ 235536; simp only [gS]; omega)⟩ kw_84 kw_85 kw_86 kw_87 kw_88 (va_recv hK.1 hP (ci := 1) (q0 := 1) rfl rfl) (hP.sub (ws' := [(h3, .inr (1, [.int 512, .ref h4, .int st.2.2])), (h4, .inl (cI, st.1, .inl st.2.1))]) [1, 2] rfl) (hD.sub (ws' := [(h3, .inr (1, [.int 512, .ref h4, .int st.2.2])), (h4, .inl (cI, st.1, .inl st.2.1))]) [1, 2] rfl rfl) rfl hl.1 (Nat.le_of_ble_eq_true rfl) d_Mk_finishStrip_34) hP hD hS hA [1, 2] [0, 3, 4] rfl rfl rfl (by decide) (fun u H locs hp hP hD hS => ?_)
    obtain ⟨q3st, x3⟩ := u
    obtain ⟨e3, ok3st, mo3st⟩ := hp
    try dsimp only at e3 ok3st mo3st
    have bo3st := StOK.le ok3st
    have hP : va_P D classes [(h0, .inr (2, [.ref h1, .ref h3, .int (mk 0), .int (mk 1), .int (mk 2), .int (mk 3), .int (mk 4), .int (mk 5), .int (mk 6), .int (mk 7), .int (mk 8), .int (mk 9), .int (mk 10), .int (mk 11)])), (h1, .inr (0, [.ref q2ro, .int x2.2.2])), (q2ro, .inl (cB, x2.1, .inl x2.2.1)), (h3, .inr (1, [.int 512, .ref q3st, .int x3.2.2])), (q3st, .inl (cI, x3.1, .inl x3.2.1))] H := hP
    have hD : va_D A [(h0, .inr (2, [.ref h1, .ref h3, .int (mk 0), .int (mk 1), .int (mk 2), .int (mk 3), .int (mk 4), .int (mk 5), .int (mk 6), .int (mk 7), .int (mk 8), .int (mk 9), .int (mk 10), .int (mk 11)])), (h1, .inr (0, [.ref q2ro, .int x2.2.2])), (q2ro, .inl (cB, x2.1, .inl x2.2.1)), (h3, .inr (1, [.int 512, .ref q3st, .int x3.2.2])), (q3st, .inl (cI, x3.1, .inl x3.2.1))] := hD
    refine W.widen (k := gC 1024 ro.1 x2.1 + gC 32 st.1 x3.1) (n := gS ro.1 x2.1 + gS st.1 x3.1) (by rw [← e3]; simp only [gC]; omega) (by rw [← e3]; simp only [gS]; omega) ?_
    refine W.eq (g2 := F0 m 37 ls []) rfl ?_
    refine lv_aload_n hx hb d_Mk_finishStrip_37 rfl (lv_at hl 0 rfl) ?_
    refine lv_iconst (v := 0) hx hb d_Mk_finishStrip_38 (by decide) ?_
    refine va_put (D := D) (ci := 2) (v := .int 0) (ty := .int) (C := R_Mk) (T := F_Mk) (N := 14) hx hb (kl_Mk hK.2) (fun _ h => h) t_Mk t_Mk_ok n_Mk hown hK.1 hP hD hS 0 rfl rfl 13 (by decide) (hw kw_53) (fun _ h9 => h9) rfl (t_Mk_ok 13 (by decide)) rfl rfl (Nat.le_of_ble_eq_true rfl) d_Mk_finishStrip_39 (fun H locs hP hD hS => ?_)
    have hP : va_P D classes [(h0, .inr (2, [.ref h1, .ref h3, .int (mk 0), .int (mk 1), .int (mk 2), .int (mk 3), .int (mk 4), .int (mk 5), .int (mk 6), .int (mk 7), .int (mk 8), .int (mk 9), .int (mk 10), .int 0])), (h1, .inr (0, [.ref q2ro, .int x2.2.2])), (q2ro, .inl (cB, x2.1, .inl x2.2.1)), (h3, .inr (1, [.int 512, .ref q3st, .int x3.2.2])), (q3st, .inl (cI, x3.1, .inl x3.2.1))] H := hP
    have hD : va_D A [(h0, .inr (2, [.ref h1, .ref h3, .int (mk 0), .int (mk 1), .int (mk 2), .int (mk 3), .int (mk 4), .int (mk 5), .int (mk 6), .int (mk 7), .int (mk 8), .int (mk 9), .int (mk 10), .int 0])), (h1, .inr (0, [.ref q2ro, .int x2.2.2])), (q2ro, .inl (cB, x2.1, .inl x2.2.1)), (h3, .inr (1, [.int 512, .ref q3st, .int x3.2.2])), (q3st, .inl (cI, x3.1, .inl x3.2.1))] := hD
    have ef : M_Mk_finishStrip mk ro st = ((upd mk 11 0), x2, x3) := by unfold M_Mk_finishStrip; (try dsimp only); rw [if_pos c_1]; (try rw [← e2]); (try rw [← e3])
    exact ct_vret hx hb hr hlocks d_Mk_finishStrip_42 ⟨by rw [ef]; simp only [gC]; omega, by rw [ef]; simp only [gS]; omega⟩ hQ hAe hS (q2ro, q3st, ((upd mk 11 0), x2, x3)) rfl ⟨ef.symm, ok2ro, (by show ro.1 ≤ x2.1; omega), ok3st, (by show st.1 ≤ x3.1; omega)⟩ (hP.sub [0, 1, 2, 3, 4] rfl) (hD.sub [0, 1, 2, 3, 4] rfl rfl)
set_option maxHeartbeats 4000000 in
set_option maxRecDepth 100000 in
theorem c_Mk_hasLists {l : Launch} {D : va_G} {cB cI cJ : ClassId} (h0 h1 h2 h3 h4 : Nat) (mk : Nat → Int32) (ro : RowS) (st : RowS) (hro : RowOK ro) (hst : StOK 512 st) : CtP classes BW l D (TY cB cI cJ) y_Mk_hasLists b_Mk_hasLists 1 (some .boolean) ({ frames := 0, cells := 0, slots := 0, locals := 0 } : Room) [.ref h0] [(h0, .inr (2, [.ref h1, .ref h3, .int (mk 0), .int (mk 1), .int (mk 2), .int (mk 3), .int (mk 4), .int (mk 5), .int (mk 6), .int (mk 7), .int (mk 8), .int (mk 9), .int (mk 10), .int (mk 11)])), (h1, .inr (0, [.ref h2, .int ro.2.2])), (h2, .inl (cB, ro.1, .inl ro.2.1)), (h3, .inr (1, [.int 512, .ref h4, .int st.2.2])), (h4, .inl (cI, st.1, .inl st.2.1))] (some (.int (M_Mk_hasLists st))) := by
  refine CtP.intro (by decide +kernel) (Nat.le_of_ble_eq_true rfl) ?_
  intro p e s m below meth c hx hb hr hml hlocks hnm hown hK hS hP hD ls hl Q hQ
  have hown : s.vm.findClass "PictureFile$Maker" = some m.cls := hown
  have hH : Hold classes BW D (TY cB cI cJ) p s m c b_Mk_hasLists 1 "PictureFile$Maker" := ⟨bw_ok, hx, hb, hml, hown, hK⟩
  have hw : ∀ {w : Cond}, w ∈ BW → w.before ([.ref h0] : List Value).toArray s = true := fun h => Wd.at bw_ok hK.2 h
  have hl : lv_has ls 1 [(0, .ref h0)] := hl
  have bo0ro := RowOK.le hro
  have bo0st := StOK.le hst
  refine lv_aload_n hx hb d_Mk_hasLists_0 rfl (lv_at hl 0 rfl) ?_
  refine va_get (D := D) (ci := 2) (C := R_Mk) (T := F_Mk) (N := 14) hx hb (kl_Mk hK.2) (fun _ h => h) hown hK.1 hP 0 rfl rfl 1 (by decide) (hw kw_54) (fun _ h9 => h9) rfl d_Mk_hasLists_1 ?_
  refine va_getN (host := "PictureFile") (D := D) (ci := 1) (C := R_St) (T := F_St) (N := 3) hx hb (kl_St hK.2) (fun _ h => h) hown hK.1 hP 3 rfl rfl 2 (by decide) (hw kw_55) (fun _ h9 => h9) rfl d_Mk_hasLists_4 ?_
  refine lv_iconst (v := 2) hx hb d_Mk_hasLists_7 (by decide) ?_
  refine lv_icmp_lt (tgt := 15) hx hb d_Mk_hasLists_8 (by decide) (fun c_1 => ?_) (fun c_1 => ?_)
  · refine lv_iconst (v := 0) hx hb d_Mk_hasLists_15 (by decide) ?_
    have ef : M_Mk_hasLists st = 0 := by unfold M_Mk_hasLists; (try dsimp only); rw [if_pos c_1]
    exact ct_piret hx hb hr (rfl) hlocks d_Mk_hasLists_16 hQ hS (by rw [ef])
  · refine lv_iconst (v := 1) hx hb d_Mk_hasLists_11 (by decide) ?_
    refine lv_goto (tgt := 16) hx hb d_Mk_hasLists_12 (by decide) ?_
    have ef : M_Mk_hasLists st = 1 := by unfold M_Mk_hasLists; (try dsimp only); rw [if_neg c_1]
    exact ct_piret hx hb hr (rfl) hlocks d_Mk_hasLists_16 hQ hS (by rw [ef])
set_option maxHeartbeats 4000000 in
set_option maxRecDepth 100000 in
theorem c_Mk_sizeWithPage {l : Launch} {D : va_G} {cB cI cJ : ClassId} (h0 h1 h2 h3 h4 : Nat) (mk : Nat → Int32) (ro : RowS) (st : RowS) (hro : RowOK ro) (hst : StOK 512 st) : CtP classes BW l D (TY cB cI cJ) y_Mk_sizeWithPage b_Mk_sizeWithPage 2 (some .int) ({ frames := 1, cells := 0, slots := 0, locals := 20 } : Room) [.ref h0] [(h0, .inr (2, [.ref h1, .ref h3, .int (mk 0), .int (mk 1), .int (mk 2), .int (mk 3), .int (mk 4), .int (mk 5), .int (mk 6), .int (mk 7), .int (mk 8), .int (mk 9), .int (mk 10), .int (mk 11)])), (h1, .inr (0, [.ref h2, .int ro.2.2])), (h2, .inl (cB, ro.1, .inl ro.2.1)), (h3, .inr (1, [.int 512, .ref h4, .int st.2.2])), (h4, .inl (cI, st.1, .inl st.2.1))] (some (.int (M_Mk_sizeWithPage ro st))) := by
  refine CtP.intro (by decide +kernel) (Nat.le_of_ble_eq_true rfl) ?_
  intro p e s m below meth c hx hb hr hml hlocks hnm hown hK hS hP hD ls hl Q hQ
  have hown : s.vm.findClass "PictureFile$Maker" = some m.cls := hown
  have hH : Hold classes BW D (TY cB cI cJ) p s m c b_Mk_sizeWithPage 2 "PictureFile$Maker" := ⟨bw_ok, hx, hb, hml, hown, hK⟩
  have hw : ∀ {w : Cond}, w ∈ BW → w.before ([.ref h0] : List Value).toArray s = true := fun h => Wd.at bw_ok hK.2 h
  have hl : lv_has ls 2 [(0, .ref h0)] := hl
  have bo0ro := RowOK.le hro
  have bo0st := StOK.le hst
  refine lv_aload_n hx hb d_Mk_sizeWithPage_0 rfl (lv_at hl 0 rfl) ?_
  refine ct_finP (ct_runV (n := 0) (C := R_Mk) (b := h0) (As := []) (rest := []) hH (c_Mk_hasLists h0 h1 h2 h3 h4 mk ro st hro hst _) ⟨cal_Mk_hasLists, ⟨Nat.le_of_ble_eq_true rfl, Nat.le_of_ble_eq_true rfl⟩, (Nat.le_of_ble_eq_true rfl), (Nat.le_of_ble_eq_true rfl)⟩ kw_89 kw_90 kw_61 kw_91 kw_92 (va_recv hK.1 hP (ci := 2) (q0 := 0) rfl rfl) (hP.sub (ws' := [(h0, .inr (2, [.ref h1, .ref h3, .int (mk 0), .int (mk 1), .int (mk 2), .int (mk 3), .int (mk 4), .int (mk 5), .int (mk 6), .int (mk 7), .int (mk 8), .int (mk 9), .int (mk 10), .int (mk 11)])), (h1, .inr (0, [.ref h2, .int ro.2.2])), (h2, .inl (cB, ro.1, .inl ro.2.1)), (h3, .inr (1, [.int 512, .ref h4, .int st.2.2])), (h4, .inl (cI, st.1, .inl st.2.1))]) [0, 1, 2, 3, 4] rfl) (hD.sub (ws' := [(h0, .inr (2, [.ref h1, .ref h3, .int (mk 0), .int (mk 1), .int (mk 2), .int (mk 3), .int (mk 4), .int (mk 5), .int (mk 6), .int (mk 7), .int (mk 8), .int (mk 9), .int (mk 10), .int (mk 11)])), (h1, .inr (0, [.ref h2, .int ro.2.2])), (h2, .inl (cB, ro.1, .inl ro.2.1)), (h3, .inr (1, [.int 512, .ref h4, .int st.2.2])), (h4, .inl (cI, st.1, .inl st.2.1))]) [0, 1, 2, 3, 4] rfl rfl) rfl hl.1 (Nat.le_of_ble_eq_true rfl) d_Mk_sizeWithPage_1) hP hS (fun H hP hS => ?_)
  refine W.eq (g2 := F0 m 4 ls [.int (M_Mk_hasLists st)]) rfl ?_
  refine lv_if_eq (tgt := 20) hx hb d_Mk_sizeWithPage_4 (by decide) (fun c_1 => ?_) (fun c_1 => ?_)
  · refine lv_iconst (v := 0) hx hb d_Mk_sizeWithPage_20 (by decide) ?_
    refine lv_istore_n (lv' := [(1, .int 0), (0, .ref h0)]) hx hb d_Mk_sizeWithPage_21 rfl hl (by decide) rfl (fun ls hl => ?_)
    refine lv_aload_n hx hb d_Mk_sizeWithPage_22 rfl (lv_at hl 1 rfl) ?_
    refine va_get (D := D) (ci := 2) (C := R_Mk) (T := F_Mk) (N := 14) hx hb (kl_Mk hK.2) (fun _ h => h) hown hK.1 hP 0 rfl rfl 0 (by decide) (hw kw_45) (fun _ h9 => h9) rfl d_Mk_sizeWithPage_23 ?_
    refine va_getN (host := "PictureFile") (D := D) (ci := 0) (C := R_Row) (T := F_Row) (N := 2) hx hb (kl_Row hK.2) (fun _ h => h) hown hK.1 hP 1 rfl rfl 1 (by decide) (hw kw_64) (fun _ h9 => h9) rfl d_Mk_sizeWithPage_26 ?_
    refine lv_aload_n hx hb d_Mk_sizeWithPage_29 rfl (lv_at hl 1 rfl) ?_
    refine va_get (D := D) (ci := 2) (C := R_Mk) (T := F_Mk) (N := 14) hx hb (kl_Mk hK.2) (fun _ h => h) hown hK.1 hP 0 rfl rfl 0 (by decide) (hw kw_45) (fun _ h9 => h9) rfl d_Mk_sizeWithPage_30 ?_
    refine va_getN (host := "PictureFile") (D := D) (ci := 0) (C := R_Row) (T := F_Row) (N := 2) hx hb (kl_Row hK.2) (fun _ h => h) hown hK.1 hP 1 rfl rfl 1 (by decide) (hw kw_64) (fun _ h9 => h9) rfl d_Mk_sizeWithPage_33 ?_
    refine lv_iconst (v := 2) hx hb d_Mk_sizeWithPage_36 (by decide) ?_
    refine lv_irem hx hb d_Mk_sizeWithPage_37 (by decide) ?_
    refine lv_iadd hx hb d_Mk_sizeWithPage_38 ?_
    refine lv_iload_n hx hb d_Mk_sizeWithPage_39 rfl (lv_at hl 0 rfl) ?_
    refine lv_iadd hx hb d_Mk_sizeWithPage_40 ?_
    refine lv_bipush (v := 16) hx hb d_Mk_sizeWithPage_41 (by decide) ?_
    refine lv_iadd hx hb d_Mk_sizeWithPage_43 ?_
    refine lv_bipush (v := 122) hx hb d_Mk_sizeWithPage_44 (by decide) ?_
    refine lv_iadd hx hb d_Mk_sizeWithPage_46 ?_
    refine lv_iconst (v := 4) hx hb d_Mk_sizeWithPage_47 (by decide) ?_
    refine lv_iadd hx hb d_Mk_sizeWithPage_48 ?_
    have ef : M_Mk_sizeWithPage ro st = (((((ro.2.2 + (ro.2.2 - ro.2.2 / 2 * 2)) + 0) + 16) + 122) + 4) := by unfold M_Mk_sizeWithPage; (try dsimp only); rw [if_pos c_1]
    exact ct_piret hx hb hr rfl hlocks d_Mk_sizeWithPage_49 hQ hS (by rw [ef])
  · refine lv_bipush (v := 8) hx hb d_Mk_sizeWithPage_7 (by decide) ?_
    refine lv_aload_n hx hb d_Mk_sizeWithPage_9 rfl (lv_at hl 0 rfl) ?_
    refine va_get (D := D) (ci := 2) (C := R_Mk) (T := F_Mk) (N := 14) hx hb (kl_Mk hK.2) (fun _ h => h) hown hK.1 hP 0 rfl rfl 1 (by decide) (hw kw_54) (fun _ h9 => h9) rfl d_Mk_sizeWithPage_10 ?_
    refine va_getN (host := "PictureFile") (D := D) (ci := 1) (C := R_St) (T := F_St) (N := 3) hx hb (kl_St hK.2) (fun _ h => h) hown hK.1 hP 3 rfl rfl 2 (by decide) (hw kw_55) (fun _ h9 => h9) rfl d_Mk_sizeWithPage_13 ?_
    refine lv_imul hx hb d_Mk_sizeWithPage_16 ?_
    refine lv_goto (tgt := 21) hx hb d_Mk_sizeWithPage_17 (by decide) ?_
    refine lv_istore_n (lv' := [(1, .int (8 * st.2.2)), (0, .ref h0)]) hx hb d_Mk_sizeWithPage_21 rfl hl (by decide) rfl (fun ls hl => ?_)
    refine lv_aload_n hx hb d_Mk_sizeWithPage_22 rfl (lv_at hl 1 rfl) ?_
    refine va_get (D := D) (ci := 2) (C := R_Mk) (T := F_Mk) (N := 14) hx hb (kl_Mk hK.2) (fun _ h => h) hown hK.1 hP 0 rfl rfl 0 (by decide) (hw kw_45) (fun _ h9 => h9) rfl d_Mk_sizeWithPage_23 ?_
    refine va_getN (host := "PictureFile") (D := D) (ci := 0) (C := R_Row) (T := F_Row) (N := 2) hx hb (kl_Row hK.2) (fun _ h => h) hown hK.1 hP 1 rfl rfl 1 (by decide) (hw kw_64) (fun _ h9 => h9) rfl d_Mk_sizeWithPage_26 ?_
    refine lv_aload_n hx hb d_Mk_sizeWithPage_29 rfl (lv_at hl 1 rfl) ?_
    refine va_get (D := D) (ci := 2) (C := R_Mk) (T := F_Mk) (N := 14) hx hb (kl_Mk hK.2) (fun _ h => h) hown hK.1 hP 0 rfl rfl 0 (by decide) (hw kw_45) (fun _ h9 => h9) rfl d_Mk_sizeWithPage_30 ?_
    refine va_getN (host := "PictureFile") (D := D) (ci := 0) (C := R_Row) (T := F_Row) (N := 2) hx hb (kl_Row hK.2) (fun _ h => h) hown hK.1 hP 1 rfl rfl 1 (by decide) (hw kw_64) (fun _ h9 => h9) rfl d_Mk_sizeWithPage_33 ?_
    refine lv_iconst (v := 2) hx hb d_Mk_sizeWithPage_36 (by decide) ?_
    refine lv_irem hx hb d_Mk_sizeWithPage_37 (by decide) ?_
    refine lv_iadd hx hb d_Mk_sizeWithPage_38 ?_
    refine lv_iload_n hx hb d_Mk_sizeWithPage_39 rfl (lv_at hl 0 rfl) ?_
    refine lv_iadd hx hb d_Mk_sizeWithPage_40 ?_
    refine lv_bipush (v := 16) hx hb d_Mk_sizeWithPage_41 (by decide) ?_
    refine lv_iadd hx hb d_Mk_sizeWithPage_43 ?_
    refine lv_bipush (v := 122) hx hb d_Mk_sizeWithPage_44 (by decide) ?_
    refine lv_iadd hx hb d_Mk_sizeWithPage_46 ?_
    refine lv_iconst (v := 4) hx hb d_Mk_sizeWithPage_47 (by decide) ?_
    refine lv_iadd hx hb d_Mk_sizeWithPage_48 ?_
    have ef : M_Mk_sizeWithPage ro st = (((((ro.2.2 + (ro.2.2 - ro.2.2 / 2 * 2)) + (8 * st.2.2)) + 16) + 122) + 4) := by unfold M_Mk_sizeWithPage; (try dsimp only); rw [if_neg c_1]
    exact ct_piret hx hb hr rfl hlocks d_Mk_sizeWithPage_49 hQ hS (by rw [ef])
set_option maxHeartbeats 4000000 in
set_option maxRecDepth 100000 in
theorem c_Mk_addList {l : Launch} {D : va_G} {cB cI cJ : ClassId} (h0 h1 h2 h3 h4 : Nat) (mk : Nat → Int32) (ro : RowS) (st : RowS) (hro : RowOK ro) (hst : StOK 512 st) (p0 : Int32) : Ct classes BW l D (TY cB cI cJ) y_Mk_addList b_Mk_addList 3 none ({ frames := 5, cells := 1201, slots := 405536, locals := 149 } : Room) [.ref h0, .int p0] [(h0, .inr (2, [.ref h1, .ref h3, .int (mk 0), .int (mk 1), .int (mk 2), .int (mk 3), .int (mk 4), .int (mk 5), .int (mk 6), .int (mk 7), .int (mk 8), .int (mk 9), .int (mk 10), .int (mk 11)])), (h1, .inr (0, [.ref h2, .int ro.2.2])), (h2, .inl (cB, ro.1, .inl ro.2.1)), (h3, .inr (1, [.int 512, .ref h4, .int st.2.2])), (h4, .inl (cI, st.1, .inl st.2.1))] (fun u : Nat × RowS => u.2 = M_Mk_addList mk ro st p0 ∧ RowOK u.2 ∧ ro.1 ≤ u.2.1) (fun u => none) (fun u => [(h0, .inr (2, [.ref h1, .ref h3, .int (mk 0), .int (mk 1), .int (mk 2), .int (mk 3), .int (mk 4), .int (mk 5), .int (mk 6), .int (mk 7), .int (mk 8), .int (mk 9), .int (mk 10), .int (mk 11)])), (h1, .inr (0, [.ref u.1, .int u.2.2.2])), (u.1, .inl (cB, u.2.1, .inl u.2.2.1)), (h3, .inr (1, [.int 512, .ref h4, .int st.2.2])), (h4, .inl (cI, st.1, .inl st.2.1))]) (gC 1024 ro.1 (M_Mk_addList mk ro st p0).1) (gS ro.1 (M_Mk_addList mk ro st p0).1) := by
  refine Ct.intro (by decide +kernel) (Nat.le_of_ble_eq_true rfl) ?_
  intro p e s m below meth c hx hb hr hml hlocks hnm hown hK A hAe hA hS hP hD ls hl Q hQ
  have hown : s.vm.findClass "PictureFile$Maker" = some m.cls := hown
  have hH : Hold classes BW D (TY cB cI cJ) p s m c b_Mk_addList 3 "PictureFile$Maker" := ⟨bw_ok, hx, hb, hml, hown, hK⟩
  have hw : ∀ {w : Cond}, w ∈ BW → w.before ([.ref h0, .int p0] : List Value).toArray s = true := fun h => Wd.at bw_ok hK.2 h
  have hl : lv_has ls 3 [(0, .ref h0), (1, .int p0)] := hl
  have bo0ro := RowOK.le hro
  have bo0st := StOK.le hst
  refine lv_iconst (v := 0) hx hb d_Mk_addList_0 (by decide) ?_
  refine lv_istore_n (lv' := [(2, .int 0), (0, .ref h0), (1, .int p0)]) hx hb d_Mk_addList_1 rfl hl (by decide) rfl (fun ls hl => ?_)
  have LP2 : ∀ (n : Nat) (v2 : Int32) (qLro : Nat) (roL : RowS) (H : Heap) (locs : List Loc) (ls : Array Slot), (st.2.2.toInt - v2.toInt).toNat < n → M_Mk_addList mk ro st p0 = L_Mk_addList mk st p0 n v2 roL → RowOK roL → ro.1 ≤ roL.1 → va_P D classes [(h0, .inr (2, [.ref h1, .ref h3, .int (mk 0), .int (mk 1), .int (mk 2), .int (mk 3), .int (mk 4), .int (mk 5), .int (mk 6), .int (mk 7), .int (mk 8), .int (mk 9), .int (mk 10), .int (mk 11)])), (h1, .inr (0, [.ref qLro, .int roL.2.2])), (qLro, .inl (cB, roL.1, .inl roL.2.1)), (h3, .inr (1, [.int 512, .ref h4, .int st.2.2])), (h4, .inl (cI, st.1, .inl st.2.1))] H → va_D A [(h0, .inr (2, [.ref h1, .ref h3, .int (mk 0), .int (mk 1), .int (mk 2), .int (mk 3), .int (mk 4), .int (mk 5), .int (mk 6), .int (mk 7), .int (mk 8), .int (mk 9), .int (mk 10), .int (mk 11)])), (h1, .inr (0, [.ref qLro, .int roL.2.2])), (qLro, .inl (cB, roL.1, .inl roL.2.1)), (h3, .inr (1, [.int 512, .ref h4, .int st.2.2])), (h4, .inl (cI, st.1, .inl st.2.1))] → va_S A s.heap H locs → lv_has ls 3 [(0, .ref h0), (1, .int p0), (2, .int v2)] → W p l e ({ frames := 5, cells := 1201, slots := 405536, locals := 149 } : Room) s m ([.ref h0, .int p0] : List Value).toArray below meth c H locs (gC 1024 ro.1 roL.1) (gS ro.1 roL.1) Q (F0 m 2 ls []) := by
    intro n
    induction n with
    | zero => intro v2 qLro roL H locs ls hmu hM okLro moLro hP hD hS hl; exact absurd hmu (Nat.not_lt_zero _)
    | succ n ih =>
      intro v2 qLro roL H locs ls hmu hM okLro moLro hP hD hS hl
      have boLro := RowOK.le okLro
      refine lv_iload_n hx hb d_Mk_addList_2 rfl (lv_at hl 2 rfl) ?_
      refine lv_aload_n hx hb d_Mk_addList_3 rfl (lv_at hl 0 rfl) ?_
      refine va_get (D := D) (ci := 2) (C := R_Mk) (T := F_Mk) (N := 14) hx hb (kl_Mk hK.2) (fun _ h => h) hown hK.1 hP 0 rfl rfl 1 (by decide) (hw kw_54) (fun _ h9 => h9) rfl d_Mk_addList_4 ?_
      refine va_getN (host := "PictureFile") (D := D) (ci := 1) (C := R_St) (T := F_St) (N := 3) hx hb (kl_St hK.2) (fun _ h => h) hown hK.1 hP 3 rfl rfl 2 (by decide) (hw kw_55) (fun _ h9 => h9) rfl d_Mk_addList_7 ?_
      refine lv_icmp_ge (tgt := 32) hx hb d_Mk_addList_10 (by decide) (fun c_1 => ?_) (fun c_1 => ?_)
      · have ef : M_Mk_addList mk ro st p0 = roL := by rw [hM, L_Mk_addList]; (try dsimp only); rw [if_pos c_1]
        exact ct_vret hx hb hr hlocks d_Mk_addList_32 ⟨by rw [ef]; simp only [gC]; omega, by rw [ef]; simp only [gS]; omega⟩ hQ hAe hS (qLro, roL) rfl ⟨ef.symm, okLro, (by show ro.1 ≤ roL.1; omega)⟩ (hP.sub [0, 1, 2, 3, 4] rfl) (hD.sub [0, 1, 2, 3, 4] rfl rfl)
      · refine lv_aload_n hx hb d_Mk_addList_13 rfl (lv_at hl 0 rfl) ?_
        refine lv_aload_n hx hb d_Mk_addList_14 rfl (lv_at hl 0 rfl) ?_
        refine va_get (D := D) (ci := 2) (C := R_Mk) (T := F_Mk) (N := 14) hx hb (kl_Mk hK.2) (fun _ h => h) hown hK.1 hP 0 rfl rfl 1 (by decide) (hw kw_54) (fun _ h9 => h9) rfl d_Mk_addList_15 ?_
        refine lv_iload_n hx hb d_Mk_addList_18 rfl (lv_at hl 2 rfl) ?_
        refine lv_iload_n hx hb d_Mk_addList_19 rfl (lv_at hl 1 rfl) ?_
        refine ct_finP (ct_runVN (host := "PictureFile") (n := 2) (C := R_St) (b := h3) (As := [.int v2, .int p0]) (rest := [.ref h0]) hH (c_St_get h3 h4 512 st hst v2 p0 _) ⟨cal_St_get, ⟨Nat.le_of_ble_eq_true rfl, Nat.le_of_ble_eq_true rfl⟩, (by show gC 1024 ro.1 roL.1 + 0 ≤ 1201; simp only [gC]; omega), (by show gS ro.1 roL.1 + 0 ≤ 405536; simp only [gS]; omega)⟩ kw_93 kw_94 kw_86 kw_95 kw_96 (va_recv hK.1 hP (ci := 1) (q0 := 3) rfl rfl) (hP.sub (ws' := [(h3, .inr (1, [.int 512, .ref h4, .int st.2.2])), (h4, .inl (cI, st.1, .inl st.2.1))]) [3, 4] rfl) (hD.sub (ws' := [(h3, .inr (1, [.int 512, .ref h4, .int st.2.2])), (h4, .inl (cI, st.1, .inl st.2.1))]) [3, 4] rfl rfl) rfl hl.1 (Nat.le_of_ble_eq_true rfl) d_Mk_addList_20) hP hS (fun H hP hS => ?_)
        refine W.eq (g2 := F0 m 23 ls [.int (M_St_get st v2 p0), .ref h0]) rfl ?_
        refine ct_fin (wr := []) (ct_runV (n := 1) (C := R_Mk) (b := h0) (As := [.int (M_St_get st v2 p0)]) (rest := []) hH (c_Mk_addLong h0 h1 qLro h3 h4 mk roL st okLro hst (M_St_get st v2 p0) _) ⟨cal_Mk_addLong, ⟨Nat.le_of_ble_eq_true rfl, Nat.le_of_ble_eq_true rfl⟩, (by show gC 1024 ro.1 roL.1 + 601 ≤ 1201; simp only [gC]; omega), (by show gS ro.1 roL.1 + 235536 ≤ 405536; simp only [gS]; omega)⟩ kw_69 kw_70 kw_61 kw_71 kw_72 (va_recv hK.1 hP (ci := 2) (q0 := 0) rfl rfl) (hP.sub (ws' := [(h0, .inr (2, [.ref h1, .ref h3, .int (mk 0), .int (mk 1), .int (mk 2), .int (mk 3), .int (mk 4), .int (mk 5), .int (mk 6), .int (mk 7), .int (mk 8), .int (mk 9), .int (mk 10), .int (mk 11)])), (h1, .inr (0, [.ref qLro, .int roL.2.2])), (qLro, .inl (cB, roL.1, .inl roL.2.1)), (h3, .inr (1, [.int 512, .ref h4, .int st.2.2])), (h4, .inl (cI, st.1, .inl st.2.1))]) [0, 1, 2, 3, 4] rfl) (hD.sub (ws' := [(h0, .inr (2, [.ref h1, .ref h3, .int (mk 0), .int (mk 1), .int (mk 2), .int (mk 3), .int (mk 4), .int (mk 5), .int (mk 6), .int (mk 7), .int (mk 8), .int (mk 9), .int (mk 10), .int (mk 11)])), (h1, .inr (0, [.ref qLro, .int roL.2.2])), (qLro, .inl (cB, roL.1, .inl roL.2.1)), (h3, .inr (1, [.int 512, .ref h4, .int st.2.2])), (h4, .inl (cI, st.1, .inl st.2.1))]) [0, 1, 2, 3, 4] rfl rfl) rfl hl.1 (Nat.le_of_ble_eq_true rfl) d_Mk_addList_23) hP hD hS hA [0, 1, 2, 3, 4] [] rfl rfl rfl (by decide) (fun u H locs hp hP hD hS => ?_)
        obtain ⟨q1ro, x1⟩ := u
        obtain ⟨e1, ok1ro, mo1ro⟩ := hp
        try dsimp only at e1 ok1ro mo1ro
        have bo1ro := RowOK.le ok1ro
        have hP : va_P D classes [(h0, .inr (2, [.ref h1, .ref h3, .int (mk 0), .int (mk 1), .int (mk 2), .int (mk 3), .int (mk 4), .int (mk 5), .int (mk 6), .int (mk 7), .int (mk 8), .int (mk 9), .int (mk 10), .int (mk 11)])), (h1, .inr (0, [.ref q1ro, .int x1.2.2])), (q1ro, .inl (cB, x1.1, .inl x1.2.1)), (h3, .inr (1, [.int 512, .ref h4, .int st.2.2])), (h4, .inl (cI, st.1, .inl st.2.1))] H := hP
        have hD : va_D A [(h0, .inr (2, [.ref h1, .ref h3, .int (mk 0), .int (mk 1), .int (mk 2), .int (mk 3), .int (mk 4), .int (mk 5), .int (mk 6), .int (mk 7), .int (mk 8), .int (mk 9), .int (mk 10), .int (mk 11)])), (h1, .inr (0, [.ref q1ro, .int x1.2.2])), (q1ro, .inl (cB, x1.1, .inl x1.2.1)), (h3, .inr (1, [.int 512, .ref h4, .int st.2.2])), (h4, .inl (cI, st.1, .inl st.2.1))] := hD
        refine W.widen (k := gC 1024 ro.1 x1.1) (n := gS ro.1 x1.1) (by rw [← e1]; simp only [gC]; omega) (by rw [← e1]; simp only [gS]; omega) ?_
        refine W.eq (g2 := F0 m 26 ls []) rfl ?_
        refine lv_iinc (v := (v2 + 1)) (lv' := [(2, .int (v2 + 1)), (0, .ref h0), (1, .int p0)]) hx hb d_Mk_addList_26 hl (k := 2) rfl rfl (by decide) rfl (fun ls hl => ?_)
        refine lv_goto (tgt := 2) hx hb d_Mk_addList_29 (by decide) ?_
        exact ih (v2 + 1) q1ro x1 H locs ls (mu_dec c_1 hmu) (by rw [hM, L_Mk_addList]; (try dsimp only); rw [if_neg c_1]; (try rw [← e1])) ok1ro (by show ro.1 ≤ x1.1; omega) (hP.sub [0, 1, 2, 3, 4] rfl) (hD.sub [0, 1, 2, 3, 4] rfl rfl) hS (lv_sub hl [1, 2, 0] rfl)
  refine W.widen (k := gC 1024 ro.1 ro.1) (n := gS ro.1 ro.1) (by simp only [gC]; omega) (by simp only [gS]; omega) ?_
  exact LP2 ((st.2.2.toInt - (0 : Int32).toInt).toNat + 1) 0 h2 ro _ _ _ (Nat.lt_succ_self _) (by rfl) hro (by show ro.1 ≤ ro.1; omega) (hP.sub [0, 1, 2, 3, 4] rfl) (hD.sub [0, 1, 2, 3, 4] rfl rfl) hS (lv_sub hl [1, 2, 0] rfl)
set_option maxHeartbeats 4000000 in
set_option maxRecDepth 100000 in
theorem c_Mk_addFineness {l : Launch} {D : va_G} {cB cI cJ : ClassId} (h0 h1 h2 h3 h4 : Nat) (mk : Nat → Int32) (ro : RowS) (st : RowS) (hro : RowOK ro) (hst : StOK 512 st) (p0 : Int32) : Ct classes BW l D (TY cB cI cJ) y_Mk_addFineness b_Mk_addFineness 2 none ({ frames := 5, cells := 1201, slots := 405536, locals := 149 } : Room) [.ref h0, .int p0] [(h0, .inr (2, [.ref h1, .ref h3, .int (mk 0), .int (mk 1), .int (mk 2), .int (mk 3), .int (mk 4), .int (mk 5), .int (mk 6), .int (mk 7), .int (mk 8), .int (mk 9), .int (mk 10), .int (mk 11)])), (h1, .inr (0, [.ref h2, .int ro.2.2])), (h2, .inl (cB, ro.1, .inl ro.2.1)), (h3, .inr (1, [.int 512, .ref h4, .int st.2.2])), (h4, .inl (cI, st.1, .inl st.2.1))] (fun u : Nat × RowS => u.2 = M_Mk_addFineness mk ro p0 ∧ RowOK u.2 ∧ ro.1 ≤ u.2.1) (fun u => none) (fun u => [(h0, .inr (2, [.ref h1, .ref h3, .int (mk 0), .int (mk 1), .int (mk 2), .int (mk 3), .int (mk 4), .int (mk 5), .int (mk 6), .int (mk 7), .int (mk 8), .int (mk 9), .int (mk 10), .int (mk 11)])), (h1, .inr (0, [.ref u.1, .int u.2.2.2])), (u.1, .inl (cB, u.2.1, .inl u.2.2.1)), (h3, .inr (1, [.int 512, .ref h4, .int st.2.2])), (h4, .inl (cI, st.1, .inl st.2.1))]) (gC 1024 ro.1 (M_Mk_addFineness mk ro p0).1) (gS ro.1 (M_Mk_addFineness mk ro p0).1) := by
  refine Ct.intro (by decide +kernel) (Nat.le_of_ble_eq_true rfl) ?_
  intro p e s m below meth c hx hb hr hml hlocks hnm hown hK A hAe hA hS hP hD ls hl Q hQ
  have hown : s.vm.findClass "PictureFile$Maker" = some m.cls := hown
  have hH : Hold classes BW D (TY cB cI cJ) p s m c b_Mk_addFineness 2 "PictureFile$Maker" := ⟨bw_ok, hx, hb, hml, hown, hK⟩
  have hw : ∀ {w : Cond}, w ∈ BW → w.before ([.ref h0, .int p0] : List Value).toArray s = true := fun h => Wd.at bw_ok hK.2 h
  have hl : lv_has ls 2 [(0, .ref h0), (1, .int p0)] := hl
  have bo0ro := RowOK.le hro
  have bo0st := StOK.le hst
  refine lv_aload_n hx hb d_Mk_addFineness_0 rfl (lv_at hl 0 rfl) ?_
  refine lv_iload_n hx hb d_Mk_addFineness_1 rfl (lv_at hl 1 rfl) ?_
  refine ct_fin (wr := []) (ct_runV (n := 1) (C := R_Mk) (b := h0) (As := [.int p0]) (rest := []) hH (c_Mk_addLong h0 h1 h2 h3 h4 mk ro st hro hst p0 _) ⟨cal_Mk_addLong, ⟨Nat.le_of_ble_eq_true rfl, Nat.le_of_ble_eq_true rfl⟩, (Nat.le_of_ble_eq_true rfl), (Nat.le_of_ble_eq_true rfl)⟩ kw_69 kw_70 kw_61 kw_71 kw_72 (va_recv hK.1 hP (ci := 2) (q0 := 0) rfl rfl) (hP.sub (ws' := [(h0, .inr (2, [.ref h1, .ref h3, .int (mk 0), .int (mk 1), .int (mk 2), .int (mk 3), .int (mk 4), .int (mk 5), .int (mk 6), .int (mk 7), .int (mk 8), .int (mk 9), .int (mk 10), .int (mk 11)])), (h1, .inr (0, [.ref h2, .int ro.2.2])), (h2, .inl (cB, ro.1, .inl ro.2.1)), (h3, .inr (1, [.int 512, .ref h4, .int st.2.2])), (h4, .inl (cI, st.1, .inl st.2.1))]) [0, 1, 2, 3, 4] rfl) (hD.sub (ws' := [(h0, .inr (2, [.ref h1, .ref h3, .int (mk 0), .int (mk 1), .int (mk 2), .int (mk 3), .int (mk 4), .int (mk 5), .int (mk 6), .int (mk 7), .int (mk 8), .int (mk 9), .int (mk 10), .int (mk 11)])), (h1, .inr (0, [.ref h2, .int ro.2.2])), (h2, .inl (cB, ro.1, .inl ro.2.1)), (h3, .inr (1, [.int 512, .ref h4, .int st.2.2])), (h4, .inl (cI, st.1, .inl st.2.1))]) [0, 1, 2, 3, 4] rfl rfl) rfl hl.1 (Nat.le_of_ble_eq_true rfl) d_Mk_addFineness_2) hP hD hS hA [0, 1, 2, 3, 4] [] rfl rfl rfl (by decide) (fun u H locs hp hP hD hS => ?_)
  obtain ⟨q1ro, x1⟩ := u
  obtain ⟨e1, ok1ro, mo1ro⟩ := hp
  try dsimp only at e1 ok1ro mo1ro
  have bo1ro := RowOK.le ok1ro
  have hP : va_P D classes [(h0, .inr (2, [.ref h1, .ref h3, .int (mk 0), .int (mk 1), .int (mk 2), .int (mk 3), .int (mk 4), .int (mk 5), .int (mk 6), .int (mk 7), .int (mk 8), .int (mk 9), .int (mk 10), .int (mk 11)])), (h1, .inr (0, [.ref q1ro, .int x1.2.2])), (q1ro, .inl (cB, x1.1, .inl x1.2.1)), (h3, .inr (1, [.int 512, .ref h4, .int st.2.2])), (h4, .inl (cI, st.1, .inl st.2.1))] H := hP
  have hD : va_D A [(h0, .inr (2, [.ref h1, .ref h3, .int (mk 0), .int (mk 1), .int (mk 2), .int (mk 3), .int (mk 4), .int (mk 5), .int (mk 6), .int (mk 7), .int (mk 8), .int (mk 9), .int (mk 10), .int (mk 11)])), (h1, .inr (0, [.ref q1ro, .int x1.2.2])), (q1ro, .inl (cB, x1.1, .inl x1.2.1)), (h3, .inr (1, [.int 512, .ref h4, .int st.2.2])), (h4, .inl (cI, st.1, .inl st.2.1))] := hD
  refine W.widen (k := gC 1024 ro.1 x1.1) (n := gS ro.1 x1.1) (by rw [← e1]; simp only [gC]; omega) (by rw [← e1]; simp only [gS]; omega) ?_
  refine W.eq (g2 := F0 m 5 ls []) rfl ?_
  refine lv_aload_n hx hb d_Mk_addFineness_5 rfl (lv_at hl 0 rfl) ?_
  refine lv_iconst (v := 1) hx hb d_Mk_addFineness_6 (by decide) ?_
  refine ct_fin (wr := []) (ct_runV (n := 1) (C := R_Mk) (b := h0) (As := [.int 1]) (rest := []) hH (c_Mk_addLong h0 h1 q1ro h3 h4 mk x1 st ok1ro hst 1 _) ⟨cal_Mk_addLong, ⟨Nat.le_of_ble_eq_true rfl, Nat.le_of_ble_eq_true rfl⟩, (by show gC 1024 ro.1 x1.1 + 601 ≤ 1201; simp only [gC]; omega), (by show gS ro.1 x1.1 + 235536 ≤ 405536; simp only [gS]; omega)⟩ kw_69 kw_70 kw_61 kw_71 kw_72 (va_recv hK.1 hP (ci := 2) (q0 := 0) rfl rfl) (hP.sub (ws' := [(h0, .inr (2, [.ref h1, .ref h3, .int (mk 0), .int (mk 1), .int (mk 2), .int (mk 3), .int (mk 4), .int (mk 5), .int (mk 6), .int (mk 7), .int (mk 8), .int (mk 9), .int (mk 10), .int (mk 11)])), (h1, .inr (0, [.ref q1ro, .int x1.2.2])), (q1ro, .inl (cB, x1.1, .inl x1.2.1)), (h3, .inr (1, [.int 512, .ref h4, .int st.2.2])), (h4, .inl (cI, st.1, .inl st.2.1))]) [0, 1, 2, 3, 4] rfl) (hD.sub (ws' := [(h0, .inr (2, [.ref h1, .ref h3, .int (mk 0), .int (mk 1), .int (mk 2), .int (mk 3), .int (mk 4), .int (mk 5), .int (mk 6), .int (mk 7), .int (mk 8), .int (mk 9), .int (mk 10), .int (mk 11)])), (h1, .inr (0, [.ref q1ro, .int x1.2.2])), (q1ro, .inl (cB, x1.1, .inl x1.2.1)), (h3, .inr (1, [.int 512, .ref h4, .int st.2.2])), (h4, .inl (cI, st.1, .inl st.2.1))]) [0, 1, 2, 3, 4] rfl rfl) rfl hl.1 (Nat.le_of_ble_eq_true rfl) d_Mk_addFineness_7) hP hD hS hA [0, 1, 2, 3, 4] [] rfl rfl rfl (by decide) (fun u H locs hp hP hD hS => ?_)
  obtain ⟨q2ro, x2⟩ := u
  obtain ⟨e2, ok2ro, mo2ro⟩ := hp
  try dsimp only at e2 ok2ro mo2ro
  have bo2ro := RowOK.le ok2ro
  have hP : va_P D classes [(h0, .inr (2, [.ref h1, .ref h3, .int (mk 0), .int (mk 1), .int (mk 2), .int (mk 3), .int (mk 4), .int (mk 5), .int (mk 6), .int (mk 7), .int (mk 8), .int (mk 9), .int (mk 10), .int (mk 11)])), (h1, .inr (0, [.ref q2ro, .int x2.2.2])), (q2ro, .inl (cB, x2.1, .inl x2.2.1)), (h3, .inr (1, [.int 512, .ref h4, .int st.2.2])), (h4, .inl (cI, st.1, .inl st.2.1))] H := hP
  have hD : va_D A [(h0, .inr (2, [.ref h1, .ref h3, .int (mk 0), .int (mk 1), .int (mk 2), .int (mk 3), .int (mk 4), .int (mk 5), .int (mk 6), .int (mk 7), .int (mk 8), .int (mk 9), .int (mk 10), .int (mk 11)])), (h1, .inr (0, [.ref q2ro, .int x2.2.2])), (q2ro, .inl (cB, x2.1, .inl x2.2.1)), (h3, .inr (1, [.int 512, .ref h4, .int st.2.2])), (h4, .inl (cI, st.1, .inl st.2.1))] := hD
  refine W.widen (k := gC 1024 ro.1 x2.1) (n := gS ro.1 x2.1) (by rw [← e2]; simp only [gC]; omega) (by rw [← e2]; simp only [gS]; omega) ?_
  refine W.eq (g2 := F0 m 10 ls []) rfl ?_
  have ef : M_Mk_addFineness mk ro p0 = x2 := by unfold M_Mk_addFineness; (try dsimp only); (try rw [← e1]); (try rw [← e2])
  exact ct_vret hx hb hr hlocks d_Mk_addFineness_10 ⟨by rw [ef]; simp only [gC]; omega, by rw [ef]; simp only [gS]; omega⟩ hQ hAe hS (q2ro, x2) rfl ⟨ef.symm, ok2ro, (by show ro.1 ≤ x2.1; omega)⟩ (hP.sub [0, 1, 2, 3, 4] rfl) (hD.sub [0, 1, 2, 3, 4] rfl rfl)
set_option maxHeartbeats 4000000 in
set_option maxRecDepth 100000 in
theorem c_Mk_addEntry {l : Launch} {D : va_G} {cB cI cJ : ClassId} (h0 h1 h2 h3 h4 : Nat) (mk : Nat → Int32) (ro : RowS) (st : RowS) (hro : RowOK ro) (hst : StOK 512 st) (p0 : Int32) (p1 : Int32) (p2 : Int32) (p3 : Int32) : Ct classes BW l D (TY cB cI cJ) y_Mk_addEntry b_Mk_addEntry 5 none ({ frames := 5, cells := 1201, slots := 405536, locals := 149 } : Room) [.ref h0, .int p0, .int p1, .int p2, .int p3] [(h0, .inr (2, [.ref h1, .ref h3, .int (mk 0), .int (mk 1), .int (mk 2), .int (mk 3), .int (mk 4), .int (mk 5), .int (mk 6), .int (mk 7), .int (mk 8), .int (mk 9), .int (mk 10), .int (mk 11)])), (h1, .inr (0, [.ref h2, .int ro.2.2])), (h2, .inl (cB, ro.1, .inl ro.2.1)), (h3, .inr (1, [.int 512, .ref h4, .int st.2.2])), (h4, .inl (cI, st.1, .inl st.2.1))] (fun u : Nat × RowS => u.2 = M_Mk_addEntry mk ro p0 p1 p2 p3 ∧ RowOK u.2 ∧ ro.1 ≤ u.2.1) (fun u => none) (fun u => [(h0, .inr (2, [.ref h1, .ref h3, .int (mk 0), .int (mk 1), .int (mk 2), .int (mk 3), .int (mk 4), .int (mk 5), .int (mk 6), .int (mk 7), .int (mk 8), .int (mk 9), .int (mk 10), .int (mk 11)])), (h1, .inr (0, [.ref u.1, .int u.2.2.2])), (u.1, .inl (cB, u.2.1, .inl u.2.2.1)), (h3, .inr (1, [.int 512, .ref h4, .int st.2.2])), (h4, .inl (cI, st.1, .inl st.2.1))]) (gC 1024 ro.1 (M_Mk_addEntry mk ro p0 p1 p2 p3).1) (gS ro.1 (M_Mk_addEntry mk ro p0 p1 p2 p3).1) := by
  refine Ct.intro (by decide +kernel) (Nat.le_of_ble_eq_true rfl) ?_
  intro p e s m below meth c hx hb hr hml hlocks hnm hown hK A hAe hA hS hP hD ls hl Q hQ
  have hown : s.vm.findClass "PictureFile$Maker" = some m.cls := hown
  have hH : Hold classes BW D (TY cB cI cJ) p s m c b_Mk_addEntry 5 "PictureFile$Maker" := ⟨bw_ok, hx, hb, hml, hown, hK⟩
  have hw : ∀ {w : Cond}, w ∈ BW → w.before ([.ref h0, .int p0, .int p1, .int p2, .int p3] : List Value).toArray s = true := fun h => Wd.at bw_ok hK.2 h
  have hl : lv_has ls 5 [(0, .ref h0), (1, .int p0), (2, .int p1), (3, .int p2), (4, .int p3)] := hl
  have bo0ro := RowOK.le hro
  have bo0st := StOK.le hst
  refine lv_aload_n hx hb d_Mk_addEntry_0 rfl (lv_at hl 0 rfl) ?_
  refine lv_iload_n hx hb d_Mk_addEntry_1 rfl (lv_at hl 1 rfl) ?_
  refine ct_fin (wr := []) (ct_runV (n := 1) (C := R_Mk) (b := h0) (As := [.int p0]) (rest := []) hH (c_Mk_addShort h0 h1 h2 h3 h4 mk ro st hro hst p0 _) ⟨cal_Mk_addShort, ⟨Nat.le_of_ble_eq_true rfl, Nat.le_of_ble_eq_true rfl⟩, (Nat.le_of_ble_eq_true rfl), (Nat.le_of_ble_eq_true rfl)⟩ kw_65 kw_66 kw_61 kw_67 kw_68 (va_recv hK.1 hP (ci := 2) (q0 := 0) rfl rfl) (hP.sub (ws' := [(h0, .inr (2, [.ref h1, .ref h3, .int (mk 0), .int (mk 1), .int (mk 2), .int (mk 3), .int (mk 4), .int (mk 5), .int (mk 6), .int (mk 7), .int (mk 8), .int (mk 9), .int (mk 10), .int (mk 11)])), (h1, .inr (0, [.ref h2, .int ro.2.2])), (h2, .inl (cB, ro.1, .inl ro.2.1)), (h3, .inr (1, [.int 512, .ref h4, .int st.2.2])), (h4, .inl (cI, st.1, .inl st.2.1))]) [0, 1, 2, 3, 4] rfl) (hD.sub (ws' := [(h0, .inr (2, [.ref h1, .ref h3, .int (mk 0), .int (mk 1), .int (mk 2), .int (mk 3), .int (mk 4), .int (mk 5), .int (mk 6), .int (mk 7), .int (mk 8), .int (mk 9), .int (mk 10), .int (mk 11)])), (h1, .inr (0, [.ref h2, .int ro.2.2])), (h2, .inl (cB, ro.1, .inl ro.2.1)), (h3, .inr (1, [.int 512, .ref h4, .int st.2.2])), (h4, .inl (cI, st.1, .inl st.2.1))]) [0, 1, 2, 3, 4] rfl rfl) rfl hl.1 (Nat.le_of_ble_eq_true rfl) d_Mk_addEntry_2) hP hD hS hA [0, 1, 2, 3, 4] [] rfl rfl rfl (by decide) (fun u H locs hp hP hD hS => ?_)
  obtain ⟨q1ro, x1⟩ := u
  obtain ⟨e1, ok1ro, mo1ro⟩ := hp
  try dsimp only at e1 ok1ro mo1ro
  have bo1ro := RowOK.le ok1ro
  have hP : va_P D classes [(h0, .inr (2, [.ref h1, .ref h3, .int (mk 0), .int (mk 1), .int (mk 2), .int (mk 3), .int (mk 4), .int (mk 5), .int (mk 6), .int (mk 7), .int (mk 8), .int (mk 9), .int (mk 10), .int (mk 11)])), (h1, .inr (0, [.ref q1ro, .int x1.2.2])), (q1ro, .inl (cB, x1.1, .inl x1.2.1)), (h3, .inr (1, [.int 512, .ref h4, .int st.2.2])), (h4, .inl (cI, st.1, .inl st.2.1))] H := hP
  have hD : va_D A [(h0, .inr (2, [.ref h1, .ref h3, .int (mk 0), .int (mk 1), .int (mk 2), .int (mk 3), .int (mk 4), .int (mk 5), .int (mk 6), .int (mk 7), .int (mk 8), .int (mk 9), .int (mk 10), .int (mk 11)])), (h1, .inr (0, [.ref q1ro, .int x1.2.2])), (q1ro, .inl (cB, x1.1, .inl x1.2.1)), (h3, .inr (1, [.int 512, .ref h4, .int st.2.2])), (h4, .inl (cI, st.1, .inl st.2.1))] := hD
  refine W.widen (k := gC 1024 ro.1 x1.1) (n := gS ro.1 x1.1) (by rw [← e1]; simp only [gC]; omega) (by rw [← e1]; simp only [gS]; omega) ?_
  refine W.eq (g2 := F0 m 5 ls []) rfl ?_
  refine lv_aload_n hx hb d_Mk_addEntry_5 rfl (lv_at hl 0 rfl) ?_
  refine lv_iload_n hx hb d_Mk_addEntry_6 rfl (lv_at hl 2 rfl) ?_
  refine ct_fin (wr := []) (ct_runV (n := 1) (C := R_Mk) (b := h0) (As := [.int p1]) (rest := []) hH (c_Mk_addShort h0 h1 q1ro h3 h4 mk x1 st ok1ro hst p1 _) ⟨cal_Mk_addShort, ⟨Nat.le_of_ble_eq_true rfl, Nat.le_of_ble_eq_true rfl⟩, (by show gC 1024 ro.1 x1.1 + 601 ≤ 1201; simp only [gC]; omega), (by show gS ro.1 x1.1 + 235536 ≤ 405536; simp only [gS]; omega)⟩ kw_65 kw_66 kw_61 kw_67 kw_68 (va_recv hK.1 hP (ci := 2) (q0 := 0) rfl rfl) (hP.sub (ws' := [(h0, .inr (2, [.ref h1, .ref h3, .int (mk 0), .int (mk 1), .int (mk 2), .int (mk 3), .int (mk 4), .int (mk 5), .int (mk 6), .int (mk 7), .int (mk 8), .int (mk 9), .int (mk 10), .int (mk 11)])), (h1, .inr (0, [.ref q1ro, .int x1.2.2])), (q1ro, .inl (cB, x1.1, .inl x1.2.1)), (h3, .inr (1, [.int 512, .ref h4, .int st.2.2])), (h4, .inl (cI, st.1, .inl st.2.1))]) [0, 1, 2, 3, 4] rfl) (hD.sub (ws' := [(h0, .inr (2, [.ref h1, .ref h3, .int (mk 0), .int (mk 1), .int (mk 2), .int (mk 3), .int (mk 4), .int (mk 5), .int (mk 6), .int (mk 7), .int (mk 8), .int (mk 9), .int (mk 10), .int (mk 11)])), (h1, .inr (0, [.ref q1ro, .int x1.2.2])), (q1ro, .inl (cB, x1.1, .inl x1.2.1)), (h3, .inr (1, [.int 512, .ref h4, .int st.2.2])), (h4, .inl (cI, st.1, .inl st.2.1))]) [0, 1, 2, 3, 4] rfl rfl) rfl hl.1 (Nat.le_of_ble_eq_true rfl) d_Mk_addEntry_7) hP hD hS hA [0, 1, 2, 3, 4] [] rfl rfl rfl (by decide) (fun u H locs hp hP hD hS => ?_)
  obtain ⟨q2ro, x2⟩ := u
  obtain ⟨e2, ok2ro, mo2ro⟩ := hp
  try dsimp only at e2 ok2ro mo2ro
  have bo2ro := RowOK.le ok2ro
  have hP : va_P D classes [(h0, .inr (2, [.ref h1, .ref h3, .int (mk 0), .int (mk 1), .int (mk 2), .int (mk 3), .int (mk 4), .int (mk 5), .int (mk 6), .int (mk 7), .int (mk 8), .int (mk 9), .int (mk 10), .int (mk 11)])), (h1, .inr (0, [.ref q2ro, .int x2.2.2])), (q2ro, .inl (cB, x2.1, .inl x2.2.1)), (h3, .inr (1, [.int 512, .ref h4, .int st.2.2])), (h4, .inl (cI, st.1, .inl st.2.1))] H := hP
  have hD : va_D A [(h0, .inr (2, [.ref h1, .ref h3, .int (mk 0), .int (mk 1), .int (mk 2), .int (mk 3), .int (mk 4), .int (mk 5), .int (mk 6), .int (mk 7), .int (mk 8), .int (mk 9), .int (mk 10), .int (mk 11)])), (h1, .inr (0, [.ref q2ro, .int x2.2.2])), (q2ro, .inl (cB, x2.1, .inl x2.2.1)), (h3, .inr (1, [.int 512, .ref h4, .int st.2.2])), (h4, .inl (cI, st.1, .inl st.2.1))] := hD
  refine W.widen (k := gC 1024 ro.1 x2.1) (n := gS ro.1 x2.1) (by rw [← e2]; simp only [gC]; omega) (by rw [← e2]; simp only [gS]; omega) ?_
  refine W.eq (g2 := F0 m 10 ls []) rfl ?_
  refine lv_aload_n hx hb d_Mk_addEntry_10 rfl (lv_at hl 0 rfl) ?_
  refine lv_iload_n hx hb d_Mk_addEntry_11 rfl (lv_at hl 3 rfl) ?_
  refine ct_fin (wr := []) (ct_runV (n := 1) (C := R_Mk) (b := h0) (As := [.int p2]) (rest := []) hH (c_Mk_addLong h0 h1 q2ro h3 h4 mk x2 st ok2ro hst p2 _) ⟨cal_Mk_addLong, ⟨Nat.le_of_ble_eq_true rfl, Nat.le_of_ble_eq_true rfl⟩, (by show gC 1024 ro.1 x2.1 + 601 ≤ 1201; simp only [gC]; omega), (by show gS ro.1 x2.1 + 235536 ≤ 405536; simp only [gS]; omega)⟩ kw_69 kw_70 kw_61 kw_71 kw_72 (va_recv hK.1 hP (ci := 2) (q0 := 0) rfl rfl) (hP.sub (ws' := [(h0, .inr (2, [.ref h1, .ref h3, .int (mk 0), .int (mk 1), .int (mk 2), .int (mk 3), .int (mk 4), .int (mk 5), .int (mk 6), .int (mk 7), .int (mk 8), .int (mk 9), .int (mk 10), .int (mk 11)])), (h1, .inr (0, [.ref q2ro, .int x2.2.2])), (q2ro, .inl (cB, x2.1, .inl x2.2.1)), (h3, .inr (1, [.int 512, .ref h4, .int st.2.2])), (h4, .inl (cI, st.1, .inl st.2.1))]) [0, 1, 2, 3, 4] rfl) (hD.sub (ws' := [(h0, .inr (2, [.ref h1, .ref h3, .int (mk 0), .int (mk 1), .int (mk 2), .int (mk 3), .int (mk 4), .int (mk 5), .int (mk 6), .int (mk 7), .int (mk 8), .int (mk 9), .int (mk 10), .int (mk 11)])), (h1, .inr (0, [.ref q2ro, .int x2.2.2])), (q2ro, .inl (cB, x2.1, .inl x2.2.1)), (h3, .inr (1, [.int 512, .ref h4, .int st.2.2])), (h4, .inl (cI, st.1, .inl st.2.1))]) [0, 1, 2, 3, 4] rfl rfl) rfl hl.1 (Nat.le_of_ble_eq_true rfl) d_Mk_addEntry_12) hP hD hS hA [0, 1, 2, 3, 4] [] rfl rfl rfl (by decide) (fun u H locs hp hP hD hS => ?_)
  obtain ⟨q3ro, x3⟩ := u
  obtain ⟨e3, ok3ro, mo3ro⟩ := hp
  try dsimp only at e3 ok3ro mo3ro
  have bo3ro := RowOK.le ok3ro
  have hP : va_P D classes [(h0, .inr (2, [.ref h1, .ref h3, .int (mk 0), .int (mk 1), .int (mk 2), .int (mk 3), .int (mk 4), .int (mk 5), .int (mk 6), .int (mk 7), .int (mk 8), .int (mk 9), .int (mk 10), .int (mk 11)])), (h1, .inr (0, [.ref q3ro, .int x3.2.2])), (q3ro, .inl (cB, x3.1, .inl x3.2.1)), (h3, .inr (1, [.int 512, .ref h4, .int st.2.2])), (h4, .inl (cI, st.1, .inl st.2.1))] H := hP
  have hD : va_D A [(h0, .inr (2, [.ref h1, .ref h3, .int (mk 0), .int (mk 1), .int (mk 2), .int (mk 3), .int (mk 4), .int (mk 5), .int (mk 6), .int (mk 7), .int (mk 8), .int (mk 9), .int (mk 10), .int (mk 11)])), (h1, .inr (0, [.ref q3ro, .int x3.2.2])), (q3ro, .inl (cB, x3.1, .inl x3.2.1)), (h3, .inr (1, [.int 512, .ref h4, .int st.2.2])), (h4, .inl (cI, st.1, .inl st.2.1))] := hD
  refine W.widen (k := gC 1024 ro.1 x3.1) (n := gS ro.1 x3.1) (by rw [← e3]; simp only [gC]; omega) (by rw [← e3]; simp only [gS]; omega) ?_
  refine W.eq (g2 := F0 m 15 ls []) rfl ?_
  refine lv_iload_n hx hb d_Mk_addEntry_15 rfl (lv_at hl 2 rfl) ?_
  refine lv_iconst (v := 3) hx hb d_Mk_addEntry_16 (by decide) ?_
  refine lv_icmp_ne (tgt := 34) hx hb d_Mk_addEntry_17 (by decide) (fun c_1 => ?_) (fun c_1 => ?_)
  · refine lv_aload_n hx hb d_Mk_addEntry_34 rfl (lv_at hl 0 rfl) ?_
    refine lv_iload hx hb d_Mk_addEntry_35 (lv_at hl 4 rfl) ?_
    refine ct_fin (wr := []) (ct_runV (n := 1) (C := R_Mk) (b := h0) (As := [.int p3]) (rest := []) hH (c_Mk_addLong h0 h1 q3ro h3 h4 mk x3 st ok3ro hst p3 _) ⟨cal_Mk_addLong, ⟨Nat.le_of_ble_eq_true rfl, Nat.le_of_ble_eq_true rfl⟩, (by show gC 1024 ro.1 x3.1 + 601 ≤ 1201; simp only [gC]; omega), (by show gS ro.1 x3.1 + 235536 ≤ 405536; simp only [gS]; omega)⟩ kw_69 kw_70 kw_61 kw_71 kw_72 (va_recv hK.1 hP (ci := 2) (q0 := 0) rfl rfl) (hP.sub (ws' := [(h0, .inr (2, [.ref h1, .ref h3, .int (mk 0), .int (mk 1), .int (mk 2), .int (mk 3), .int (mk 4), .int (mk 5), .int (mk 6), .int (mk 7), .int (mk 8), .int (mk 9), .int (mk 10), .int (mk 11)])), (h1, .inr (0, [.ref q3ro, .int x3.2.2])), (q3ro, .inl (cB, x3.1, .inl x3.2.1)), (h3, .inr (1, [.int 512, .ref h4, .int st.2.2])), (h4, .inl (cI, st.1, .inl st.2.1))]) [0, 1, 2, 3, 4] rfl) (hD.sub (ws' := [(h0, .inr (2, [.ref h1, .ref h3, .int (mk 0), .int (mk 1), .int (mk 2), .int (mk 3), .int (mk 4), .int (mk 5), .int (mk 6), .int (mk 7), .int (mk 8), .int (mk 9), .int (mk 10), .int (mk 11)])), (h1, .inr (0, [.ref q3ro, .int x3.2.2])), (q3ro, .inl (cB, x3.1, .inl x3.2.1)), (h3, .inr (1, [.int 512, .ref h4, .int st.2.2])), (h4, .inl (cI, st.1, .inl st.2.1))]) [0, 1, 2, 3, 4] rfl rfl) rfl hl.1 (Nat.le_of_ble_eq_true rfl) d_Mk_addEntry_37) hP hD hS hA [0, 1, 2, 3, 4] [] rfl rfl rfl (by decide) (fun u H locs hp hP hD hS => ?_)
    obtain ⟨q4ro, x4⟩ := u
    obtain ⟨e4, ok4ro, mo4ro⟩ := hp
    try dsimp only at e4 ok4ro mo4ro
    have bo4ro := RowOK.le ok4ro
    have hP : va_P D classes [(h0, .inr (2, [.ref h1, .ref h3, .int (mk 0), .int (mk 1), .int (mk 2), .int (mk 3), .int (mk 4), .int (mk 5), .int (mk 6), .int (mk 7), .int (mk 8), .int (mk 9), .int (mk 10), .int (mk 11)])), (h1, .inr (0, [.ref q4ro, .int x4.2.2])), (q4ro, .inl (cB, x4.1, .inl x4.2.1)), (h3, .inr (1, [.int 512, .ref h4, .int st.2.2])), (h4, .inl (cI, st.1, .inl st.2.1))] H := hP
    have hD : va_D A [(h0, .inr (2, [.ref h1, .ref h3, .int (mk 0), .int (mk 1), .int (mk 2), .int (mk 3), .int (mk 4), .int (mk 5), .int (mk 6), .int (mk 7), .int (mk 8), .int (mk 9), .int (mk 10), .int (mk 11)])), (h1, .inr (0, [.ref q4ro, .int x4.2.2])), (q4ro, .inl (cB, x4.1, .inl x4.2.1)), (h3, .inr (1, [.int 512, .ref h4, .int st.2.2])), (h4, .inl (cI, st.1, .inl st.2.1))] := hD
    refine W.widen (k := gC 1024 ro.1 x4.1) (n := gS ro.1 x4.1) (by rw [← e4]; simp only [gC]; omega) (by rw [← e4]; simp only [gS]; omega) ?_
    refine W.eq (g2 := F0 m 40 ls []) rfl ?_
    have ef : M_Mk_addEntry mk ro p0 p1 p2 p3 = x4 := by unfold M_Mk_addEntry; (try dsimp only); (try rw [← e1]); (try rw [← e2]); (try rw [← e3]); rw [if_neg c_1]; (try rw [← e4])
    exact ct_vret hx hb hr hlocks d_Mk_addEntry_40 ⟨by rw [ef]; simp only [gC]; omega, by rw [ef]; simp only [gS]; omega⟩ hQ hAe hS (q4ro, x4) rfl ⟨ef.symm, ok4ro, (by show ro.1 ≤ x4.1; omega)⟩ (hP.sub [0, 1, 2, 3, 4] rfl) (hD.sub [0, 1, 2, 3, 4] rfl rfl)
  · refine lv_aload_n hx hb d_Mk_addEntry_20 rfl (lv_at hl 0 rfl) ?_
    refine lv_iload hx hb d_Mk_addEntry_21 (lv_at hl 4 rfl) ?_
    refine ct_fin (wr := []) (ct_runV (n := 1) (C := R_Mk) (b := h0) (As := [.int p3]) (rest := []) hH (c_Mk_addShort h0 h1 q3ro h3 h4 mk x3 st ok3ro hst p3 _) ⟨cal_Mk_addShort, ⟨Nat.le_of_ble_eq_true rfl, Nat.le_of_ble_eq_true rfl⟩, (by show gC 1024 ro.1 x3.1 + 601 ≤ 1201; simp only [gC]; omega), (by show gS ro.1 x3.1 + 235536 ≤ 405536; simp only [gS]; omega)⟩ kw_65 kw_66 kw_61 kw_67 kw_68 (va_recv hK.1 hP (ci := 2) (q0 := 0) rfl rfl) (hP.sub (ws' := [(h0, .inr (2, [.ref h1, .ref h3, .int (mk 0), .int (mk 1), .int (mk 2), .int (mk 3), .int (mk 4), .int (mk 5), .int (mk 6), .int (mk 7), .int (mk 8), .int (mk 9), .int (mk 10), .int (mk 11)])), (h1, .inr (0, [.ref q3ro, .int x3.2.2])), (q3ro, .inl (cB, x3.1, .inl x3.2.1)), (h3, .inr (1, [.int 512, .ref h4, .int st.2.2])), (h4, .inl (cI, st.1, .inl st.2.1))]) [0, 1, 2, 3, 4] rfl) (hD.sub (ws' := [(h0, .inr (2, [.ref h1, .ref h3, .int (mk 0), .int (mk 1), .int (mk 2), .int (mk 3), .int (mk 4), .int (mk 5), .int (mk 6), .int (mk 7), .int (mk 8), .int (mk 9), .int (mk 10), .int (mk 11)])), (h1, .inr (0, [.ref q3ro, .int x3.2.2])), (q3ro, .inl (cB, x3.1, .inl x3.2.1)), (h3, .inr (1, [.int 512, .ref h4, .int st.2.2])), (h4, .inl (cI, st.1, .inl st.2.1))]) [0, 1, 2, 3, 4] rfl rfl) rfl hl.1 (Nat.le_of_ble_eq_true rfl) d_Mk_addEntry_23) hP hD hS hA [0, 1, 2, 3, 4] [] rfl rfl rfl (by decide) (fun u H locs hp hP hD hS => ?_)
    obtain ⟨q5ro, x5⟩ := u
    obtain ⟨e5, ok5ro, mo5ro⟩ := hp
    try dsimp only at e5 ok5ro mo5ro
    have bo5ro := RowOK.le ok5ro
    have hP : va_P D classes [(h0, .inr (2, [.ref h1, .ref h3, .int (mk 0), .int (mk 1), .int (mk 2), .int (mk 3), .int (mk 4), .int (mk 5), .int (mk 6), .int (mk 7), .int (mk 8), .int (mk 9), .int (mk 10), .int (mk 11)])), (h1, .inr (0, [.ref q5ro, .int x5.2.2])), (q5ro, .inl (cB, x5.1, .inl x5.2.1)), (h3, .inr (1, [.int 512, .ref h4, .int st.2.2])), (h4, .inl (cI, st.1, .inl st.2.1))] H := hP
    have hD : va_D A [(h0, .inr (2, [.ref h1, .ref h3, .int (mk 0), .int (mk 1), .int (mk 2), .int (mk 3), .int (mk 4), .int (mk 5), .int (mk 6), .int (mk 7), .int (mk 8), .int (mk 9), .int (mk 10), .int (mk 11)])), (h1, .inr (0, [.ref q5ro, .int x5.2.2])), (q5ro, .inl (cB, x5.1, .inl x5.2.1)), (h3, .inr (1, [.int 512, .ref h4, .int st.2.2])), (h4, .inl (cI, st.1, .inl st.2.1))] := hD
    refine W.widen (k := gC 1024 ro.1 x5.1) (n := gS ro.1 x5.1) (by rw [← e5]; simp only [gC]; omega) (by rw [← e5]; simp only [gS]; omega) ?_
    refine W.eq (g2 := F0 m 26 ls []) rfl ?_
    refine lv_aload_n hx hb d_Mk_addEntry_26 rfl (lv_at hl 0 rfl) ?_
    refine lv_iconst (v := 0) hx hb d_Mk_addEntry_27 (by decide) ?_
    refine ct_fin (wr := []) (ct_runV (n := 1) (C := R_Mk) (b := h0) (As := [.int 0]) (rest := []) hH (c_Mk_addShort h0 h1 q5ro h3 h4 mk x5 st ok5ro hst 0 _) ⟨cal_Mk_addShort, ⟨Nat.le_of_ble_eq_true rfl, Nat.le_of_ble_eq_true rfl⟩, (by show gC 1024 ro.1 x5.1 + 601 ≤ 1201; simp only [gC]; omega), (by show gS ro.1 x5.1 + 235536 ≤ 405536; simp only [gS]; omega)⟩ kw_65 kw_66 kw_61 kw_67 kw_68 (va_recv hK.1 hP (ci := 2) (q0 := 0) rfl rfl) (hP.sub (ws' := [(h0, .inr (2, [.ref h1, .ref h3, .int (mk 0), .int (mk 1), .int (mk 2), .int (mk 3), .int (mk 4), .int (mk 5), .int (mk 6), .int (mk 7), .int (mk 8), .int (mk 9), .int (mk 10), .int (mk 11)])), (h1, .inr (0, [.ref q5ro, .int x5.2.2])), (q5ro, .inl (cB, x5.1, .inl x5.2.1)), (h3, .inr (1, [.int 512, .ref h4, .int st.2.2])), (h4, .inl (cI, st.1, .inl st.2.1))]) [0, 1, 2, 3, 4] rfl) (hD.sub (ws' := [(h0, .inr (2, [.ref h1, .ref h3, .int (mk 0), .int (mk 1), .int (mk 2), .int (mk 3), .int (mk 4), .int (mk 5), .int (mk 6), .int (mk 7), .int (mk 8), .int (mk 9), .int (mk 10), .int (mk 11)])), (h1, .inr (0, [.ref q5ro, .int x5.2.2])), (q5ro, .inl (cB, x5.1, .inl x5.2.1)), (h3, .inr (1, [.int 512, .ref h4, .int st.2.2])), (h4, .inl (cI, st.1, .inl st.2.1))]) [0, 1, 2, 3, 4] rfl rfl) rfl hl.1 (Nat.le_of_ble_eq_true rfl) d_Mk_addEntry_28) hP hD hS hA [0, 1, 2, 3, 4] [] rfl rfl rfl (by decide) (fun u H locs hp hP hD hS => ?_)
    obtain ⟨q6ro, x6⟩ := u
    obtain ⟨e6, ok6ro, mo6ro⟩ := hp
    try dsimp only at e6 ok6ro mo6ro
    have bo6ro := RowOK.le ok6ro
    have hP : va_P D classes [(h0, .inr (2, [.ref h1, .ref h3, .int (mk 0), .int (mk 1), .int (mk 2), .int (mk 3), .int (mk 4), .int (mk 5), .int (mk 6), .int (mk 7), .int (mk 8), .int (mk 9), .int (mk 10), .int (mk 11)])), (h1, .inr (0, [.ref q6ro, .int x6.2.2])), (q6ro, .inl (cB, x6.1, .inl x6.2.1)), (h3, .inr (1, [.int 512, .ref h4, .int st.2.2])), (h4, .inl (cI, st.1, .inl st.2.1))] H := hP
    have hD : va_D A [(h0, .inr (2, [.ref h1, .ref h3, .int (mk 0), .int (mk 1), .int (mk 2), .int (mk 3), .int (mk 4), .int (mk 5), .int (mk 6), .int (mk 7), .int (mk 8), .int (mk 9), .int (mk 10), .int (mk 11)])), (h1, .inr (0, [.ref q6ro, .int x6.2.2])), (q6ro, .inl (cB, x6.1, .inl x6.2.1)), (h3, .inr (1, [.int 512, .ref h4, .int st.2.2])), (h4, .inl (cI, st.1, .inl st.2.1))] := hD
    refine W.widen (k := gC 1024 ro.1 x6.1) (n := gS ro.1 x6.1) (by rw [← e6]; simp only [gC]; omega) (by rw [← e6]; simp only [gS]; omega) ?_
    refine W.eq (g2 := F0 m 31 ls []) rfl ?_
    refine lv_goto (tgt := 40) hx hb d_Mk_addEntry_31 (by decide) ?_
    have ef : M_Mk_addEntry mk ro p0 p1 p2 p3 = x6 := by unfold M_Mk_addEntry; (try dsimp only); (try rw [← e1]); (try rw [← e2]); (try rw [← e3]); rw [if_pos c_1]; (try rw [← e5]); (try rw [← e6])
    exact ct_vret hx hb hr hlocks d_Mk_addEntry_40 ⟨by rw [ef]; simp only [gC]; omega, by rw [ef]; simp only [gS]; omega⟩ hQ hAe hS (q6ro, x6) rfl ⟨ef.symm, ok6ro, (by show ro.1 ≤ x6.1; omega)⟩ (hP.sub [0, 1, 2, 3, 4] rfl) (hD.sub [0, 1, 2, 3, 4] rfl rfl)
