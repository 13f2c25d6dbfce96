set_option maxHeartbeats 4000000 in
set_option maxRecDepth 100000 in
theorem c_PF_cut {l : Launch} {D : va_G} {cB cI cJ : ClassId} (h0 h1 h2 h3 h4 h5 h6 h7 h8 h9 h10 h11 h12 h13 h14 h15 : Nat) (mk : Nat → Int32) (ro : RowS) (st : RowS) (rd : Nat → Int32) (ty : Nat → Int32) (ct : Nat → Int32) (pl : Nat → Int32) (nu : Nat → Int64) (rs : RowS) (fs : Nat → Int32) (hro : RowOK ro) (hst : StOK 512 st) (hrs : StOK 8192 rs) (p0 : Int32) : Ct classes BW l D (TY cB cI cJ) y_PF_cut b_PF_cut 2 (some .boolean) ({ frames := 0, cells := 0, slots := 0, locals := 0 } : Room) [.ref h0, .int p0] [(h0, .inr (6, [.ref h2, .ref h1, .ref h6])), (h1, .inr (2, [.ref h2, .ref h4, .int (mk 0), .int (mk 1), .int (mk 2), .int (mk 3), .int (mk 4), .int (mk 5), .int (mk 6), .int (mk 7), .int (mk 8), .int (mk 9), .int (mk 10), .int (mk 11)])), (h2, .inr (0, [.ref h3, .int ro.2.2])), (h3, .inl (cB, ro.1, .inl ro.2.1)), (h4, .inr (1, [.int 512, .ref h5, .int st.2.2])), (h5, .inl (cI, st.1, .inl st.2.1)), (h6, .inr (5, [.ref h2, .ref h7, .ref h11, .ref h13, .ref h15, .int (rd 0), .int (rd 1), .int (rd 2), .int (rd 3), .int (rd 4), .int (rd 5), .int (rd 6)])), (h7, .inr (4, [.ref h2, .ref h8, .ref h9, .ref h10])), (h8, .inl (cI, 41, .inl ty)), (h9, .inl (cI, 41, .inl ct)), (h10, .inl (cI, 41, .inl pl)), (h11, .inr (3, [.ref h12])), (h12, .inl (cJ, 520, .inr (.inl nu))), (h13, .inr (1, [.int 8192, .ref h14, .int rs.2.2])), (h14, .inl (cI, rs.1, .inl rs.2.1)), (h15, .inl (cI, 40, .inl fs))] (fun u : Nat × Int32 × RowS => u.2 = M_PF_cut mk ro p0 ∧ RowOK u.2.2 ∧ ro.1 ≤ u.2.2.1 ∧ (u.2.1 = 0 ∨ u.2.1 = 1)) (fun u => some (.int u.2.1)) (fun u => [(h0, .inr (6, [.ref h2, .ref h1, .ref h6])), (h1, .inr (2, [.ref h2, .ref h4, .int (mk 0), .int (mk 1), .int (mk 2), .int (mk 3), .int (mk 4), .int (mk 5), .int (mk 6), .int (mk 7), .int (mk 8), .int (mk 9), .int (mk 10), .int (mk 11)])), (h2, .inr (0, [.ref u.1, .int u.2.2.2.2])), (u.1, .inl (cB, u.2.2.1, .inl u.2.2.2.1)), (h4, .inr (1, [.int 512, .ref h5, .int st.2.2])), (h5, .inl (cI, st.1, .inl st.2.1)), (h6, .inr (5, [.ref h2, .ref h7, .ref h11, .ref h13, .ref h15, .int (rd 0), .int (rd 1), .int (rd 2), .int (rd 3), .int (rd 4), .int (rd 5), .int (rd 6)])), (h7, .inr (4, [.ref h2, .ref h8, .ref h9, .ref h10])), (h8, .inl (cI, 41, .inl ty)), (h9, .inl (cI, 41, .inl ct)), (h10, .inl (cI, 41, .inl pl)), (h11, .inr (3, [.ref h12])), (h12, .inl (cJ, 520, .inr (.inl nu))), (h13, .inr (1, [.int 8192, .ref h14, .int rs.2.2])), (h14, .inl (cI, rs.1, .inl rs.2.1)), (h15, .inl (cI, 40, .inl fs))]) (gC 1024 ro.1 (M_PF_cut mk ro p0).2.1) (gS ro.1 (M_PF_cut mk ro p0).2.1) := by
  refine Ct.intro (by decide +kernel) (Nat.le_of_ble_eq_true rfl) ?_
  intro p e s m below meth c hx hb hr hml hlocks hnm hown hK A hAe hA hS hP hD ls hl Q hQ
  have hown : s.vm.findClass "PictureFile" = some m.cls := hown
  have hH : Hold classes BW D (TY cB cI cJ) p s m c b_PF_cut 2 "PictureFile" := ⟨bw_ok, hx, hb, hml, hown, hK⟩
  have hw : ∀ {w : Cond}, w ∈ BW → w.before ([.ref h0, .int p0] : List Value).toArray s = true := fun h => Wd.at bw_ok hK.2 h
  have hl : lv_has ls 2 [(0, .ref h0), (1, .int p0)] := hl
  have bo0ro := RowOK.le hro
  have bo0st := StOK.le hst
  have bo0rs := StOK.le hrs
  refine lv_aload_n hx hb d_PF_cut_0 rfl (lv_at hl 0 rfl) ?_
  refine va_get (D := D) (ci := 6) (C := R_PF) (T := F_PF) (N := 3) hx hb (kl_PF hK.2) (fun _ h => h) hown hK.1 hP 0 rfl rfl 1 (by decide) (hw kw_277) (fun _ h9 => h9) rfl d_PF_cut_1 ?_
  refine va_getN (host := "PictureFile") (D := D) (ci := 2) (C := R_Mk) (T := F_Mk) (N := 14) hx hb (kl_Mk hK.2) (fun _ h => h) hown hK.1 hP 1 rfl rfl 2 (by decide) (hw kw_278) (fun _ h9 => h9) rfl d_PF_cut_4 ?_
  refine lv_if_ne (tgt := 25) hx hb d_PF_cut_7 (by decide) (fun c_1 => ?_) (fun c_1 => ?_)
  · refine lv_iconst (v := 0) hx hb d_PF_cut_25 (by decide) ?_
    have ef : M_PF_cut mk ro p0 = (0, ro) := by unfold M_PF_cut; (try dsimp only); rw [if_neg c_1]
    exact ct_iret hx hb hr (rfl) hlocks d_PF_cut_26 ⟨Nat.zero_le _, Nat.zero_le _⟩ hQ hAe hS (h3, (0, ro)) rfl ⟨ef.symm, hro, (by show ro.1 ≤ ro.1; omega), (Or.inl rfl)⟩ (hP.sub [0, 1, 2, 3, 4, 5, 6, 7, 8, 9, 10, 11, 12, 13, 14, 15] rfl) (hD.sub [0, 1, 2, 3, 4, 5, 6, 7, 8, 9, 10, 11, 12, 13, 14, 15] rfl rfl)
  · refine lv_iload_n hx hb d_PF_cut_10 rfl (lv_at hl 1 rfl) ?_
    refine lv_if_lt (tgt := 25) hx hb d_PF_cut_11 (by decide) (fun c_2 => ?_) (fun c_2 => ?_)
    · refine lv_iconst (v := 0) hx hb d_PF_cut_25 (by decide) ?_
      have ef : M_PF_cut mk ro p0 = (0, ro) := by unfold M_PF_cut; (try dsimp only); rw [if_pos c_1]; rw [if_pos c_2]
      exact ct_iret hx hb hr (rfl) hlocks d_PF_cut_26 ⟨Nat.zero_le _, Nat.zero_le _⟩ hQ hAe hS (h3, (0, ro)) rfl ⟨ef.symm, hro, (by show ro.1 ≤ ro.1; omega), (Or.inl rfl)⟩ (hP.sub [0, 1, 2, 3, 4, 5, 6, 7, 8, 9, 10, 11, 12, 13, 14, 15] rfl) (hD.sub [0, 1, 2, 3, 4, 5, 6, 7, 8, 9, 10, 11, 12, 13, 14, 15] rfl rfl)
    · refine lv_iload_n hx hb d_PF_cut_14 rfl (lv_at hl 1 rfl) ?_
      refine lv_aload_n hx hb d_PF_cut_15 rfl (lv_at hl 0 rfl) ?_
      refine va_get (D := D) (ci := 6) (C := R_PF) (T := F_PF) (N := 3) hx hb (kl_PF hK.2) (fun _ h => h) hown hK.1 hP 0 rfl rfl 0 (by decide) (hw kw_282) (fun _ h9 => h9) rfl d_PF_cut_16 ?_
      refine va_getN (host := "PictureFile") (D := D) (ci := 0) (C := R_Row) (T := F_Row) (N := 2) hx hb (kl_Row hK.2) (fun _ h => h) hown hK.1 hP 2 rfl rfl 1 (by decide) (hw kw_283) (fun _ h9 => h9) rfl d_PF_cut_19 ?_
      refine lv_icmp_le (tgt := 27) hx hb d_PF_cut_22 (by decide) (fun c_3 => ?_) (fun c_3 => ?_)
      · refine lv_aload_n hx hb d_PF_cut_27 rfl (lv_at hl 0 rfl) ?_
        refine va_get (D := D) (ci := 6) (C := R_PF) (T := F_PF) (N := 3) hx hb (kl_PF hK.2) (fun _ h => h) hown hK.1 hP 0 rfl rfl 0 (by decide) (hw kw_282) (fun _ h9 => h9) rfl d_PF_cut_28 ?_
        refine lv_iload_n hx hb d_PF_cut_31 rfl (lv_at hl 1 rfl) ?_
        refine va_putN (host := "PictureFile") (D := D) (ci := 0) (v := .int p0) (ty := .int) (C := R_Row) (T := F_Row) (N := 2) hx hb (kl_Row hK.2) (fun _ h => h) t_Row t_Row_ok n_Row hown hK.1 hP hD hS 2 rfl rfl 1 (by decide) (hw kw_283) (fun _ h9 => h9) rfl (t_Row_ok 1 (by decide)) rfl rfl (Nat.le_of_ble_eq_true rfl) d_PF_cut_32 (fun H locs hP hD hS => ?_)
        have hP : va_P D classes [(h0, .inr (6, [.ref h2, .ref h1, .ref h6])), (h1, .inr (2, [.ref h2, .ref h4, .int (mk 0), .int (mk 1), .int (mk 2), .int (mk 3), .int (mk 4), .int (mk 5), .int (mk 6), .int (mk 7), .int (mk 8), .int (mk 9), .int (mk 10), .int (mk 11)])), (h2, .inr (0, [.ref h3, .int p0])), (h3, .inl (cB, ro.1, .inl ro.2.1)), (h4, .inr (1, [.int 512, .ref h5, .int st.2.2])), (h5, .inl (cI, st.1, .inl st.2.1)), (h6, .inr (5, [.ref h2, .ref h7, .ref h11, .ref h13, .ref h15, .int (rd 0), .int (rd 1), .int (rd 2), .int (rd 3), .int (rd 4), .int (rd 5), .int (rd 6)])), (h7, .inr (4, [.ref h2, .ref h8, .ref h9, .ref h10])), (h8, .inl (cI, 41, .inl ty)), (h9, .inl (cI, 41, .inl ct)), (h10, .inl (cI, 41, .inl pl)), (h11, .inr (3, [.ref h12])), (h12, .inl (cJ, 520, .inr (.inl nu))), (h13, .inr (1, [.int 8192, .ref h14, .int rs.2.2])), (h14, .inl (cI, rs.1, .inl rs.2.1)), (h15, .inl (cI, 40, .inl fs))] H := hP
        have hD : va_D A [(h0, .inr (6, [.ref h2, .ref h1, .ref h6])), (h1, .inr (2, [.ref h2, .ref h4, .int (mk 0), .int (mk 1), .int (mk 2), .int (mk 3), .int (mk 4), .int (mk 5), .int (mk 6), .int (mk 7), .int (mk 8), .int (mk 9), .int (mk 10), .int (mk 11)])), (h2, .inr (0, [.ref h3, .int p0])), (h3, .inl (cB, ro.1, .inl ro.2.1)), (h4, .inr (1, [.int 512, .ref h5, .int st.2.2])), (h5, .inl (cI, st.1, .inl st.2.1)), (h6, .inr (5, [.ref h2, .ref h7, .ref h11, .ref h13, .ref h15, .int (rd 0), .int (rd 1), .int (rd 2), .int (rd 3), .int (rd 4), .int (rd 5), .int (rd 6)])), (h7, .inr (4, [.ref h2, .ref h8, .ref h9, .ref h10])), (h8, .inl (cI, 41, .inl ty)), (h9, .inl (cI, 41, .inl ct)), (h10, .inl (cI, 41, .inl pl)), (h11, .inr (3, [.ref h12])), (h12, .inl (cJ, 520, .inr (.inl nu))), (h13, .inr (1, [.int 8192, .ref h14, .int rs.2.2])), (h14, .inl (cI, rs.1, .inl rs.2.1)), (h15, .inl (cI, 40, .inl fs))] := hD
        refine lv_iconst (v := 1) hx hb d_PF_cut_35 (by decide) ?_
        have ef : M_PF_cut mk ro p0 = (1, (ro.1, ro.2.1, p0)) := by unfold M_PF_cut; (try dsimp only); rw [if_pos c_1]; rw [if_neg c_2]; rw [if_pos c_3]
        exact ct_iret hx hb hr (rfl) hlocks d_PF_cut_36 ⟨Nat.zero_le _, Nat.zero_le _⟩ hQ hAe hS (h3, (1, (ro.1, ro.2.1, p0))) rfl ⟨ef.symm, (RowOK.cut hro c_2 c_3), (by show ro.1 ≤ ro.1; omega), (Or.inr rfl)⟩ (hP.sub [0, 1, 2, 3, 4, 5, 6, 7, 8, 9, 10, 11, 12, 13, 14, 15] rfl) (hD.sub [0, 1, 2, 3, 4, 5, 6, 7, 8, 9, 10, 11, 12, 13, 14, 15] rfl rfl)
      · refine lv_iconst (v := 0) hx hb d_PF_cut_25 (by decide) ?_
        have ef : M_PF_cut mk ro p0 = (0, ro) := by unfold M_PF_cut; (try dsimp only); rw [if_pos c_1]; rw [if_neg c_2]; rw [if_neg c_3]
        exact ct_iret hx hb hr (rfl) hlocks d_PF_cut_26 ⟨Nat.zero_le _, Nat.zero_le _⟩ hQ hAe hS (h3, (0, ro)) rfl ⟨ef.symm, hro, (by show ro.1 ≤ ro.1; omega), (Or.inl rfl)⟩ (hP.sub [0, 1, 2, 3, 4, 5, 6, 7, 8, 9, 10, 11, 12, 13, 14, 15] rfl) (hD.sub [0, 1, 2, 3, 4, 5, 6, 7, 8, 9, 10, 11, 12, 13, 14, 15] rfl rfl)
set_option maxHeartbeats 4000000 in
set_option maxRecDepth 100000 in
theorem c_PF_bytes {l : Launch} {D : va_G} {cB cI cJ : ClassId} (h0 h1 h2 h3 h4 h5 h6 h7 h8 h9 h10 h11 h12 h13 h14 h15 : Nat) (mk : Nat → Int32) (ro : RowS) (st : RowS) (rd : Nat → Int32) (ty : Nat → Int32) (ct : Nat → Int32) (pl : Nat → Int32) (nu : Nat → Int64) (rs : RowS) (fs : Nat → Int32) (hro : RowOK ro) (hst : StOK 512 st) (hrs : StOK 8192 rs) (p0 : Int32) : CtP classes BW l D (TY cB cI cJ) y_PF_bytes b_PF_bytes 2 (some .long) ({ frames := 2, cells := 0, slots := 0, locals := 49 } : Room) [.ref h0, .int p0] [(h0, .inr (6, [.ref h2, .ref h1, .ref h6])), (h1, .inr (2, [.ref h2, .ref h4, .int (mk 0), .int (mk 1), .int (mk 2), .int (mk 3), .int (mk 4), .int (mk 5), .int (mk 6), .int (mk 7), .int (mk 8), .int (mk 9), .int (mk 10), .int (mk 11)])), (h2, .inr (0, [.ref h3, .int ro.2.2])), (h3, .inl (cB, ro.1, .inl ro.2.1)), (h4, .inr (1, [.int 512, .ref h5, .int st.2.2])), (h5, .inl (cI, st.1, .inl st.2.1)), (h6, .inr (5, [.ref h2, .ref h7, .ref h11, .ref h13, .ref h15, .int (rd 0), .int (rd 1), .int (rd 2), .int (rd 3), .int (rd 4), .int (rd 5), .int (rd 6)])), (h7, .inr (4, [.ref h2, .ref h8, .ref h9, .ref h10])), (h8, .inl (cI, 41, .inl ty)), (h9, .inl (cI, 41, .inl ct)), (h10, .inl (cI, 41, .inl pl)), (h11, .inr (3, [.ref h12])), (h12, .inl (cJ, 520, .inr (.inl nu))), (h13, .inr (1, [.int 8192, .ref h14, .int rs.2.2])), (h14, .inl (cI, rs.1, .inl rs.2.1)), (h15, .inl (cI, 40, .inl fs))] (some (.long (M_PF_bytes ro p0))) := by
  refine CtP.intro (by decide +kernel) (Nat.le_of_ble_eq_true rfl) ?_
  intro p e s m below meth c hx hb hr hml hlocks hnm hown hK hS hP hD ls hl Q hQ
  have hown : s.vm.findClass "PictureFile" = some m.cls := hown
  have hH : Hold classes BW D (TY cB cI cJ) p s m c b_PF_bytes 2 "PictureFile" := ⟨bw_ok, hx, hb, hml, hown, hK⟩
  have hw : ∀ {w : Cond}, w ∈ BW → w.before ([.ref h0, .int p0] : List Value).toArray s = true := fun h => Wd.at bw_ok hK.2 h
  have hl : lv_has ls 2 [(0, .ref h0), (1, .int p0)] := hl
  have bo0ro := RowOK.le hro
  have bo0st := StOK.le hst
  have bo0rs := StOK.le hrs
  refine lv_aload_n hx hb d_PF_bytes_0 rfl (lv_at hl 0 rfl) ?_
  refine va_get (D := D) (ci := 6) (C := R_PF) (T := F_PF) (N := 3) hx hb (kl_PF hK.2) (fun _ h => h) hown hK.1 hP 0 rfl rfl 0 (by decide) (hw kw_282) (fun _ h9 => h9) rfl d_PF_bytes_1 ?_
  refine lv_ldc2 (v := 8) hx hb hown (hw kw_0) d_PF_bytes_4 ?_
  refine lv_iload_n hx hb d_PF_bytes_7 rfl (lv_at hl 1 rfl) ?_
  refine lv_i2l hx hb d_PF_bytes_8 rfl ?_
  refine lv_lmul hx hb d_PF_bytes_9 ?_
  refine lv_bipush (v := 8) hx hb d_PF_bytes_10 (by decide) ?_
  refine lv_bipush (v := 77) hx hb d_PF_bytes_12 (by decide) ?_
  refine ct_finP (ct_runVN (host := "PictureFile") (n := 3) (C := R_Row) (b := h2) (As := [.long (8 * p0.toInt64), .int 8, .int 77]) (rest := []) hH (c_Row_number h2 h3 ro hro (8 * p0.toInt64) 8 77 _) ⟨cal_Row_number, ⟨Nat.le_of_ble_eq_true rfl, Nat.le_of_ble_eq_true rfl⟩, (Nat.le_of_ble_eq_true rfl), (Nat.le_of_ble_eq_true rfl)⟩ kw_287 kw_142 kw_24 kw_143 kw_144 (va_recv hK.1 hP (ci := 0) (q0 := 2) rfl rfl) (hP.sub (ws' := [(h2, .inr (0, [.ref h3, .int ro.2.2])), (h3, .inl (cB, ro.1, .inl ro.2.1))]) [2, 3] rfl) (hD.sub (ws' := [(h2, .inr (0, [.ref h3, .int ro.2.2])), (h3, .inl (cB, ro.1, .inl ro.2.1))]) [2, 3] rfl rfl) rfl hl.1 (Nat.le_of_ble_eq_true rfl) d_PF_bytes_14) hP hS (fun H hP hS => ?_)
  refine W.eq (g2 := F0 m 17 ls [.long (M_Row_number ro (8 * p0.toInt64) 8 77)]) rfl ?_
  have ef : M_PF_bytes ro p0 = (M_Row_number ro (8 * p0.toInt64) 8 77) := by rfl
  exact ct_plret hx hb hr hlocks d_PF_bytes_17 hQ hS (by rw [ef])
set_option maxHeartbeats 4000000 in
set_option maxRecDepth 100000 in
theorem c_PF_put {l : Launch} {D : va_G} {cB cI cJ : ClassId} (h0 h1 h2 h3 h4 h5 h6 h7 h8 h9 h10 h11 h12 h13 h14 h15 : Nat) (mk : Nat → Int32) (ro : RowS) (st : RowS) (rd : Nat → Int32) (ty : Nat → Int32) (ct : Nat → Int32) (pl : Nat → Int32) (nu : Nat → Int64) (rs : RowS) (fs : Nat → Int32) (hro : RowOK ro) (hst : StOK 512 st) (hrs : StOK 8192 rs) (p0 : Int64) (p1 : Int32) : Ct classes BW l D (TY cB cI cJ) y_PF_put b_PF_put 4 (some .boolean) ({ frames := 5, cells := 1201, slots := 405536, locals := 151 } : Room) [.ref h0, .long p0, .int p1] [(h0, .inr (6, [.ref h2, .ref h1, .ref h6])), (h1, .inr (2, [.ref h2, .ref h4, .int (mk 0), .int (mk 1), .int (mk 2), .int (mk 3), .int (mk 4), .int (mk 5), .int (mk 6), .int (mk 7), .int (mk 8), .int (mk 9), .int (mk 10), .int (mk 11)])), (h2, .inr (0, [.ref h3, .int ro.2.2])), (h3, .inl (cB, ro.1, .inl ro.2.1)), (h4, .inr (1, [.int 512, .ref h5, .int st.2.2])), (h5, .inl (cI, st.1, .inl st.2.1)), (h6, .inr (5, [.ref h2, .ref h7, .ref h11, .ref h13, .ref h15, .int (rd 0), .int (rd 1), .int (rd 2), .int (rd 3), .int (rd 4), .int (rd 5), .int (rd 6)])), (h7, .inr (4, [.ref h2, .ref h8, .ref h9, .ref h10])), (h8, .inl (cI, 41, .inl ty)), (h9, .inl (cI, 41, .inl ct)), (h10, .inl (cI, 41, .inl pl)), (h11, .inr (3, [.ref h12])), (h12, .inl (cJ, 520, .inr (.inl nu))), (h13, .inr (1, [.int 8192, .ref h14, .int rs.2.2])), (h14, .inl (cI, rs.1, .inl rs.2.1)), (h15, .inl (cI, 40, .inl fs))] (fun u : Nat × Int32 × (Nat → Int32) × RowS => u.2 = M_PF_put mk ro st p0 p1 ∧ RowOK u.2.2.2 ∧ ro.1 ≤ u.2.2.2.1 ∧ (u.2.1 = 0 ∨ u.2.1 = 1)) (fun u => some (.int u.2.1)) (fun u => [(h0, .inr (6, [.ref h2, .ref h1, .ref h6])), (h1, .inr (2, [.ref h2, .ref h4, .int (u.2.2.1 0), .int (u.2.2.1 1), .int (u.2.2.1 2), .int (u.2.2.1 3), .int (u.2.2.1 4), .int (u.2.2.1 5), .int (u.2.2.1 6), .int (u.2.2.1 7), .int (u.2.2.1 8), .int (u.2.2.1 9), .int (u.2.2.1 10), .int (u.2.2.1 11)])), (h2, .inr (0, [.ref u.1, .int u.2.2.2.2.2])), (u.1, .inl (cB, u.2.2.2.1, .inl u.2.2.2.2.1)), (h4, .inr (1, [.int 512, .ref h5, .int st.2.2])), (h5, .inl (cI, st.1, .inl st.2.1)), (h6, .inr (5, [.ref h2, .ref h7, .ref h11, .ref h13, .ref h15, .int (rd 0), .int (rd 1), .int (rd 2), .int (rd 3), .int (rd 4), .int (rd 5), .int (rd 6)])), (h7, .inr (4, [.ref h2, .ref h8, .ref h9, .ref h10])), (h8, .inl (cI, 41, .inl ty)), (h9, .inl (cI, 41, .inl ct)), (h10, .inl (cI, 41, .inl pl)), (h11, .inr (3, [.ref h12])), (h12, .inl (cJ, 520, .inr (.inl nu))), (h13, .inr (1, [.int 8192, .ref h14, .int rs.2.2])), (h14, .inl (cI, rs.1, .inl rs.2.1)), (h15, .inl (cI, 40, .inl fs))]) (gC 1024 ro.1 (M_PF_put mk ro st p0 p1).2.2.1) (gS ro.1 (M_PF_put mk ro st p0 p1).2.2.1) := by
  refine Ct.intro (by decide +kernel) (Nat.le_of_ble_eq_true rfl) ?_
  intro p e s m below meth c hx hb hr hml hlocks hnm hown hK A hAe hA hS hP hD ls hl Q hQ
  have hown : s.vm.findClass "PictureFile" = some m.cls := hown
  have hH : Hold classes BW D (TY cB cI cJ) p s m c b_PF_put 4 "PictureFile" := ⟨bw_ok, hx, hb, hml, hown, hK⟩
  have hw : ∀ {w : Cond}, w ∈ BW → w.before ([.ref h0, .long p0, .int p1] : List Value).toArray s = true := fun h => Wd.at bw_ok hK.2 h
  have hl : lv_has ls 4 [(0, .ref h0), (1, .long p0), (3, .int p1)] := hl
  have bo0ro := RowOK.le hro
  have bo0st := StOK.le hst
  have bo0rs := StOK.le hrs
  refine lv_iload_n hx hb d_PF_put_0 rfl (lv_at hl 2 rfl) ?_
  refine ct_finP (ct_runS (n := 1) (As := [.int p1]) (rest := []) hH (c_PF_isPartLength p1 _) ⟨cal_PF_isPartLength, ⟨Nat.le_of_ble_eq_true rfl, Nat.le_of_ble_eq_true rfl⟩, (Nat.le_of_ble_eq_true rfl), (Nat.le_of_ble_eq_true rfl)⟩ kw_279 kw_280 kw_3 kw_281 (hP.sub (ws' := []) [] rfl) (hD.sub (ws' := []) [] rfl rfl) rfl hl.1 (Nat.le_of_ble_eq_true rfl) d_PF_put_1) hP hS (fun H hP hS => ?_)
  refine W.eq (g2 := F0 m 4 ls [.int (M_PF_isPartLength p1)]) rfl ?_
  refine lv_if_eq (tgt := 28) hx hb d_PF_put_4 (by decide) (fun c_1 => ?_) (fun c_1 => ?_)
  · refine lv_iconst (v := 0) hx hb d_PF_put_28 (by decide) ?_
    have ef : M_PF_put mk ro st p0 p1 = (0, mk, ro) := by unfold M_PF_put; (try dsimp only); rw [if_pos c_1]
    exact ct_iret hx hb hr (rfl) hlocks d_PF_put_29 ⟨Nat.zero_le _, Nat.zero_le _⟩ hQ hAe hS (h3, (0, mk, ro)) rfl ⟨ef.symm, hro, (by show ro.1 ≤ ro.1; omega), (Or.inl rfl)⟩ (hP.sub [0, 1, 2, 3, 4, 5, 6, 7, 8, 9, 10, 11, 12, 13, 14, 15] rfl) (hD.sub [0, 1, 2, 3, 4, 5, 6, 7, 8, 9, 10, 11, 12, 13, 14, 15] rfl rfl)
  · refine lv_aload_n hx hb d_PF_put_7 rfl (lv_at hl 0 rfl) ?_
    refine va_get (D := D) (ci := 6) (C := R_PF) (T := F_PF) (N := 3) hx hb (kl_PF hK.2) (fun _ h => h) hown hK.1 hP 0 rfl rfl 1 (by decide) (hw kw_277) (fun _ h9 => h9) rfl d_PF_put_8 ?_
    refine ct_finP (ct_runVN (host := "PictureFile") (n := 0) (C := R_Mk) (b := h1) (As := []) (rest := []) hH (c_Mk_stripsToCome h1 h2 h3 h4 h5 mk ro st hro hst _) ⟨cal_Mk_stripsToCome, ⟨Nat.le_of_ble_eq_true rfl, Nat.le_of_ble_eq_true rfl⟩, (Nat.le_of_ble_eq_true rfl), (Nat.le_of_ble_eq_true rfl)⟩ kw_288 kw_289 kw_61 kw_290 kw_291 (va_recv hK.1 hP (ci := 2) (q0 := 1) rfl rfl) (hP.sub (ws' := [(h1, .inr (2, [.ref h2, .ref h4, .int (mk 0), .int (mk 1), .int (mk 2), .int (mk 3), .int (mk 4), .int (mk 5), .int (mk 6), .int (mk 7), .int (mk 8), .int (mk 9), .int (mk 10), .int (mk 11)])), (h2, .inr (0, [.ref h3, .int ro.2.2])), (h3, .inl (cB, ro.1, .inl ro.2.1)), (h4, .inr (1, [.int 512, .ref h5, .int st.2.2])), (h5, .inl (cI, st.1, .inl st.2.1))]) [1, 2, 3, 4, 5] rfl) (hD.sub (ws' := [(h1, .inr (2, [.ref h2, .ref h4, .int (mk 0), .int (mk 1), .int (mk 2), .int (mk 3), .int (mk 4), .int (mk 5), .int (mk 6), .int (mk 7), .int (mk 8), .int (mk 9), .int (mk 10), .int (mk 11)])), (h2, .inr (0, [.ref h3, .int ro.2.2])), (h3, .inl (cB, ro.1, .inl ro.2.1)), (h4, .inr (1, [.int 512, .ref h5, .int st.2.2])), (h5, .inl (cI, st.1, .inl st.2.1))]) [1, 2, 3, 4, 5] rfl rfl) rfl hl.1 (Nat.le_of_ble_eq_true rfl) d_PF_put_11) hP hS (fun H hP hS => ?_)
    refine W.eq (g2 := F0 m 14 ls [.int (M_Mk_stripsToCome mk st)]) rfl ?_
    refine lv_if_eq (tgt := 28) hx hb d_PF_put_14 (by decide) (fun c_2 => ?_) (fun c_2 => ?_)
    · refine lv_iconst (v := 0) hx hb d_PF_put_28 (by decide) ?_
      have ef : M_PF_put mk ro st p0 p1 = (0, mk, ro) := by unfold M_PF_put; (try dsimp only); rw [if_neg c_1]; rw [if_pos c_2]
      exact ct_iret hx hb hr (rfl) hlocks d_PF_put_29 ⟨Nat.zero_le _, Nat.zero_le _⟩ hQ hAe hS (h3, (0, mk, ro)) rfl ⟨ef.symm, hro, (by show ro.1 ≤ ro.1; omega), (Or.inl rfl)⟩ (hP.sub [0, 1, 2, 3, 4, 5, 6, 7, 8, 9, 10, 11, 12, 13, 14, 15] rfl) (hD.sub [0, 1, 2, 3, 4, 5, 6, 7, 8, 9, 10, 11, 12, 13, 14, 15] rfl rfl)
    · refine lv_aload_n hx hb d_PF_put_17 rfl (lv_at hl 0 rfl) ?_
      refine va_get (D := D) (ci := 6) (C := R_PF) (T := F_PF) (N := 3) hx hb (kl_PF hK.2) (fun _ h => h) hown hK.1 hP 0 rfl rfl 1 (by decide) (hw kw_277) (fun _ h9 => h9) rfl d_PF_put_18 ?_
      refine lv_iload_n hx hb d_PF_put_21 rfl (lv_at hl 2 rfl) ?_
      refine ct_finP (ct_runVN (host := "PictureFile") (n := 1) (C := R_Mk) (b := h1) (As := [.int p1]) (rest := []) hH (c_Mk_hasRoomFor h1 h2 h3 h4 h5 mk ro st hro hst p1 _) ⟨cal_Mk_hasRoomFor, ⟨Nat.le_of_ble_eq_true rfl, Nat.le_of_ble_eq_true rfl⟩, (Nat.le_of_ble_eq_true rfl), (Nat.le_of_ble_eq_true rfl)⟩ kw_292 kw_293 kw_61 kw_294 kw_295 (va_recv hK.1 hP (ci := 2) (q0 := 1) rfl rfl) (hP.sub (ws' := [(h1, .inr (2, [.ref h2, .ref h4, .int (mk 0), .int (mk 1), .int (mk 2), .int (mk 3), .int (mk 4), .int (mk 5), .int (mk 6), .int (mk 7), .int (mk 8), .int (mk 9), .int (mk 10), .int (mk 11)])), (h2, .inr (0, [.ref h3, .int ro.2.2])), (h3, .inl (cB, ro.1, .inl ro.2.1)), (h4, .inr (1, [.int 512, .ref h5, .int st.2.2])), (h5, .inl (cI, st.1, .inl st.2.1))]) [1, 2, 3, 4, 5] rfl) (hD.sub (ws' := [(h1, .inr (2, [.ref h2, .ref h4, .int (mk 0), .int (mk 1), .int (mk 2), .int (mk 3), .int (mk 4), .int (mk 5), .int (mk 6), .int (mk 7), .int (mk 8), .int (mk 9), .int (mk 10), .int (mk 11)])), (h2, .inr (0, [.ref h3, .int ro.2.2])), (h3, .inl (cB, ro.1, .inl ro.2.1)), (h4, .inr (1, [.int 512, .ref h5, .int st.2.2])), (h5, .inl (cI, st.1, .inl st.2.1))]) [1, 2, 3, 4, 5] rfl rfl) rfl hl.1 (Nat.le_of_ble_eq_true rfl) d_PF_put_22) hP hS (fun H hP hS => ?_)
      refine W.eq (g2 := F0 m 25 ls [.int (M_Mk_hasRoomFor mk ro p1)]) rfl ?_
      refine lv_if_ne (tgt := 30) hx hb d_PF_put_25 (by decide) (fun c_3 => ?_) (fun c_3 => ?_)
      · refine lv_aload_n hx hb d_PF_put_30 rfl (lv_at hl 0 rfl) ?_
        refine va_get (D := D) (ci := 6) (C := R_PF) (T := F_PF) (N := 3) hx hb (kl_PF hK.2) (fun _ h => h) hown hK.1 hP 0 rfl rfl 1 (by decide) (hw kw_277) (fun _ h9 => h9) rfl d_PF_put_31 ?_
        refine lv_lload_n hx hb d_PF_put_34 rfl (lv_at hl 1 rfl) ?_
        refine lv_iload_n hx hb d_PF_put_35 rfl (lv_at hl 2 rfl) ?_
        refine ct_fin (wr := [(h0, .inr (6, [.ref h2, .ref h1, .ref h6])), (h6, .inr (5, [.ref h2, .ref h7, .ref h11, .ref h13, .ref h15, .int (rd 0), .int (rd 1), .int (rd 2), .int (rd 3), .int (rd 4), .int (rd 5), .int (rd 6)])), (h7, .inr (4, [.ref h2, .ref h8, .ref h9, .ref h10])), (h8, .inl (cI, 41, .inl ty)), (h9, .inl (cI, 41, .inl ct)), (h10, .inl (cI, 41, .inl pl)), (h11, .inr (3, [.ref h12])), (h12, .inl (cJ, 520, .inr (.inl nu))), (h13, .inr (1, [.int 8192, .ref h14, .int rs.2.2])), (h14, .inl (cI, rs.1, .inl rs.2.1)), (h15, .inl (cI, 40, .inl fs))]) (ct_runVN (host := "PictureFile") (n := 2) (C := R_Mk) (b := h1) (As := [.long p0, .int p1]) (rest := []) hH (c_Mk_addToStrip h1 h2 h3 h4 h5 mk ro st hro hst p0 p1 _) ⟨cal_Mk_addToStrip, ⟨Nat.le_of_ble_eq_true rfl, Nat.le_of_ble_eq_true rfl⟩, (Nat.le_of_ble_eq_true rfl), (Nat.le_of_ble_eq_true rfl)⟩ kw_296 kw_297 kw_61 kw_298 kw_299 (va_recv hK.1 hP (ci := 2) (q0 := 1) rfl rfl) (hP.sub (ws' := [(h1, .inr (2, [.ref h2, .ref h4, .int (mk 0), .int (mk 1), .int (mk 2), .int (mk 3), .int (mk 4), .int (mk 5), .int (mk 6), .int (mk 7), .int (mk 8), .int (mk 9), .int (mk 10), .int (mk 11)])), (h2, .inr (0, [.ref h3, .int ro.2.2])), (h3, .inl (cB, ro.1, .inl ro.2.1)), (h4, .inr (1, [.int 512, .ref h5, .int st.2.2])), (h5, .inl (cI, st.1, .inl st.2.1))]) [1, 2, 3, 4, 5] rfl) (hD.sub (ws' := [(h1, .inr (2, [.ref h2, .ref h4, .int (mk 0), .int (mk 1), .int (mk 2), .int (mk 3), .int (mk 4), .int (mk 5), .int (mk 6), .int (mk 7), .int (mk 8), .int (mk 9), .int (mk 10), .int (mk 11)])), (h2, .inr (0, [.ref h3, .int ro.2.2])), (h3, .inl (cB, ro.1, .inl ro.2.1)), (h4, .inr (1, [.int 512, .ref h5, .int st.2.2])), (h5, .inl (cI, st.1, .inl st.2.1))]) [1, 2, 3, 4, 5] rfl rfl) rfl hl.1 (Nat.le_of_ble_eq_true rfl) d_PF_put_36) hP hD hS hA [1, 2, 3, 4, 5] [0, 6, 7, 8, 9, 10, 11, 12, 13, 14, 15] rfl rfl rfl (by decide) (fun u H locs hp hP hD hS => ?_)
        obtain ⟨q1ro, x1⟩ := u
        obtain ⟨e1, ok1ro, mo1ro⟩ := hp
        try dsimp only at e1 ok1ro mo1ro
        have bo1ro := RowOK.le ok1ro
        have hP : va_P D classes [(h0, .inr (6, [.ref h2, .ref h1, .ref h6])), (h6, .inr (5, [.ref h2, .ref h7, .ref h11, .ref h13, .ref h15, .int (rd 0), .int (rd 1), .int (rd 2), .int (rd 3), .int (rd 4), .int (rd 5), .int (rd 6)])), (h7, .inr (4, [.ref h2, .ref h8, .ref h9, .ref h10])), (h8, .inl (cI, 41, .inl ty)), (h9, .inl (cI, 41, .inl ct)), (h10, .inl (cI, 41, .inl pl)), (h11, .inr (3, [.ref h12])), (h12, .inl (cJ, 520, .inr (.inl nu))), (h13, .inr (1, [.int 8192, .ref h14, .int rs.2.2])), (h14, .inl (cI, rs.1, .inl rs.2.1)), (h15, .inl (cI, 40, .inl fs)), (h1, .inr (2, [.ref h2, .ref h4, .int (x1.1 0), .int (x1.1 1), .int (x1.1 2), .int (x1.1 3), .int (x1.1 4), .int (x1.1 5), .int (x1.1 6), .int (x1.1 7), .int (x1.1 8), .int (x1.1 9), .int (x1.1 10), .int (x1.1 11)])), (h2, .inr (0, [.ref q1ro, .int x1.2.2.2])), (q1ro, .inl (cB, x1.2.1, .inl x1.2.2.1)), (h4, .inr (1, [.int 512, .ref h5, .int st.2.2])), (h5, .inl (cI, st.1, .inl st.2.1))] H := hP
        have hD : va_D A [(h0, .inr (6, [.ref h2, .ref h1, .ref h6])), (h6, .inr (5, [.ref h2, .ref h7, .ref h11, .ref h13, .ref h15, .int (rd 0), .int (rd 1), .int (rd 2), .int (rd 3), .int (rd 4), .int (rd 5), .int (rd 6)])), (h7, .inr (4, [.ref h2, .ref h8, .ref h9, .ref h10])), (h8, .inl (cI, 41, .inl ty)), (h9, .inl (cI, 41, .inl ct)), (h10, .inl (cI, 41, .inl pl)), (h11, .inr (3, [.ref h12])), (h12, .inl (cJ, 520, .inr (.inl nu))), (h13, .inr (1, [.int 8192, .ref h14, .int rs.2.2])), (h14, .inl (cI, rs.1, .inl rs.2.1)), (h15, .inl (cI, 40, .inl fs)), (h1, .inr (2, [.ref h2, .ref h4, .int (x1.1 0), .int (x1.1 1), .int (x1.1 2), .int (x1.1 3), .int (x1.1 4), .int (x1.1 5), .int (x1.1 6), .int (x1.1 7), .int (x1.1 8), .int (x1.1 9), .int (x1.1 10), .int (x1.1 11)])), (h2, .inr (0, [.ref q1ro, .int x1.2.2.2])), (q1ro, .inl (cB, x1.2.1, .inl x1.2.2.1)), (h4, .inr (1, [.int 512, .ref h5, .int st.2.2])), (h5, .inl (cI, st.1, .inl st.2.1))] := hD
        refine W.widen (k := gC 1024 ro.1 x1.2.1) (n := gS ro.1 x1.2.1) (by rw [← e1]; simp only [gC]; omega) (by rw [← e1]; simp only [gS]; omega) ?_
        refine W.eq (g2 := F0 m 39 ls []) rfl ?_
        refine lv_iconst (v := 1) hx hb d_PF_put_39 (by decide) ?_
        have ef : M_PF_put mk ro st p0 p1 = (1, x1.1, x1.2) := by unfold M_PF_put; (try dsimp only); rw [if_neg c_1]; rw [if_neg c_2]; rw [if_neg c_3]; (try rw [← e1])
        exact ct_iret hx hb hr (rfl) hlocks d_PF_put_40 ⟨by rw [ef]; simp only [gC]; omega, by rw [ef]; simp only [gS]; omega⟩ hQ hAe hS (q1ro, (1, x1.1, x1.2)) rfl ⟨ef.symm, ok1ro, (by show ro.1 ≤ x1.2.1; omega), (Or.inr rfl)⟩ (hP.sub [0, 11, 12, 13, 14, 15, 1, 2, 3, 4, 5, 6, 7, 8, 9, 10] rfl) (hD.sub [0, 11, 12, 13, 14, 15, 1, 2, 3, 4, 5, 6, 7, 8, 9, 10] rfl rfl)
      · refine lv_iconst (v := 0) hx hb d_PF_put_28 (by decide) ?_
        have ef : M_PF_put mk ro st p0 p1 = (0, mk, ro) := by unfold M_PF_put; (try dsimp only); rw [if_neg c_1]; rw [if_neg c_2]; rw [if_pos c_3]
        exact ct_iret hx hb hr (rfl) hlocks d_PF_put_29 ⟨Nat.zero_le _, Nat.zero_le _⟩ hQ hAe hS (h3, (0, mk, ro)) rfl ⟨ef.symm, hro, (by show ro.1 ≤ ro.1; omega), (Or.inl rfl)⟩ (hP.sub [0, 1, 2, 3, 4, 5, 6, 7, 8, 9, 10, 11, 12, 13, 14, 15] rfl) (hD.sub [0, 1, 2, 3, 4, 5, 6, 7, 8, 9, 10, 11, 12, 13, 14, 15] rfl rfl)
set_option maxHeartbeats 4000000 in
set_option maxRecDepth 100000 in
theorem c_PF_fault {l : Launch} {D : va_G} {cB cI cJ : ClassId} (h0 h1 h2 h3 h4 h5 h6 h7 h8 h9 h10 h11 h12 h13 h14 h15 : Nat) (mk : Nat → Int32) (ro : RowS) (st : RowS) (rd : Nat → Int32) (ty : Nat → Int32) (ct : Nat → Int32) (pl : Nat → Int32) (nu : Nat → Int64) (rs : RowS) (fs : Nat → Int32) (hro : RowOK ro) (hst : StOK 512 st) (hrs : StOK 8192 rs) (p0 : Int32) : CtP classes BW l D (TY cB cI cJ) y_PF_fault b_PF_fault 2 (some .int) ({ frames := 1, cells := 0, slots := 0, locals := 21 } : Room) [.ref h0, .int p0] [(h0, .inr (6, [.ref h2, .ref h1, .ref h6])), (h1, .inr (2, [.ref h2, .ref h4, .int (mk 0), .int (mk 1), .int (mk 2), .int (mk 3), .int (mk 4), .int (mk 5), .int (mk 6), .int (mk 7), .int (mk 8), .int (mk 9), .int (mk 10), .int (mk 11)])), (h2, .inr (0, [.ref h3, .int ro.2.2])), (h3, .inl (cB, ro.1, .inl ro.2.1)), (h4, .inr (1, [.int 512, .ref h5, .int st.2.2])), (h5, .inl (cI, st.1, .inl st.2.1)), (h6, .inr (5, [.ref h2, .ref h7, .ref h11, .ref h13, .ref h15, .int (rd 0), .int (rd 1), .int (rd 2), .int (rd 3), .int (rd 4), .int (rd 5), .int (rd 6)])), (h7, .inr (4, [.ref h2, .ref h8, .ref h9, .ref h10])), (h8, .inl (cI, 41, .inl ty)), (h9, .inl (cI, 41, .inl ct)), (h10, .inl (cI, 41, .inl pl)), (h11, .inr (3, [.ref h12])), (h12, .inl (cJ, 520, .inr (.inl nu))), (h13, .inr (1, [.int 8192, .ref h14, .int rs.2.2])), (h14, .inl (cI, rs.1, .inl rs.2.1)), (h15, .inl (cI, 40, .inl fs))] (some (.int (M_PF_fault rd p0))) := by
  refine CtP.intro (by decide +kernel) (Nat.le_of_ble_eq_true rfl) ?_
  intro p e s m below meth c hx hb hr hml hlocks hnm hown hK hS hP hD ls hl Q hQ
  have hown : s.vm.findClass "PictureFile" = some m.cls := hown
  have hH : Hold classes BW D (TY cB cI cJ) p s m c b_PF_fault 2 "PictureFile" := ⟨bw_ok, hx, hb, hml, hown, hK⟩
  have hw : ∀ {w : Cond}, w ∈ BW → w.before ([.ref h0, .int p0] : List Value).toArray s = true := fun h => Wd.at bw_ok hK.2 h
  have hl : lv_has ls 2 [(0, .ref h0), (1, .int p0)] := hl
  have bo0ro := RowOK.le hro
  have bo0st := StOK.le hst
  have bo0rs := StOK.le hrs
  refine lv_aload_n hx hb d_PF_fault_0 rfl (lv_at hl 0 rfl) ?_
  refine va_get (D := D) (ci := 6) (C := R_PF) (T := F_PF) (N := 3) hx hb (kl_PF hK.2) (fun _ h => h) hown hK.1 hP 0 rfl rfl 2 (by decide) (hw kw_300) (fun _ h9 => h9) rfl d_PF_fault_1 ?_
  refine lv_iload_n hx hb d_PF_fault_4 rfl (lv_at hl 1 rfl) ?_
  refine ct_finP (ct_runVN (host := "PictureFile") (n := 1) (C := R_Rd) (b := h6) (As := [.int p0]) (rest := []) hH (c_Rd_faultNumber h6 h2 h3 h7 h8 h9 h10 h11 h12 h13 h14 h15 rd ro ty ct pl nu rs fs hro hrs p0 _) ⟨cal_Rd_faultNumber, ⟨Nat.le_of_ble_eq_true rfl, Nat.le_of_ble_eq_true rfl⟩, (Nat.le_of_ble_eq_true rfl), (Nat.le_of_ble_eq_true rfl)⟩ kw_301 kw_302 kw_167 kw_303 kw_304 (va_recv hK.1 hP (ci := 5) (q0 := 6) rfl rfl) (hP.sub (ws' := [(h6, .inr (5, [.ref h2, .ref h7, .ref h11, .ref h13, .ref h15, .int (rd 0), .int (rd 1), .int (rd 2), .int (rd 3), .int (rd 4), .int (rd 5), .int (rd 6)])), (h2, .inr (0, [.ref h3, .int ro.2.2])), (h3, .inl (cB, ro.1, .inl ro.2.1)), (h7, .inr (4, [.ref h2, .ref h8, .ref h9, .ref h10])), (h8, .inl (cI, 41, .inl ty)), (h9, .inl (cI, 41, .inl ct)), (h10, .inl (cI, 41, .inl pl)), (h11, .inr (3, [.ref h12])), (h12, .inl (cJ, 520, .inr (.inl nu))), (h13, .inr (1, [.int 8192, .ref h14, .int rs.2.2])), (h14, .inl (cI, rs.1, .inl rs.2.1)), (h15, .inl (cI, 40, .inl fs))]) [6, 2, 3, 7, 8, 9, 10, 11, 12, 13, 14, 15] rfl) (hD.sub (ws' := [(h6, .inr (5, [.ref h2, .ref h7, .ref h11, .ref h13, .ref h15, .int (rd 0), .int (rd 1), .int (rd 2), .int (rd 3), .int (rd 4), .int (rd 5), .int (rd 6)])), (h2, .inr (0, [.ref h3, .int ro.2.2])), (h3, .inl (cB, ro.1, .inl ro.2.1)), (h7, .inr (4, [.ref h2, .ref h8, .ref h9, .ref h10])), (h8, .inl (cI, 41, .inl ty)), (h9, .inl (cI, 41, .inl ct)), (h10, .inl (cI, 41, .inl pl)), (h11, .inr (3, [.ref h12])), (h12, .inl (cJ, 520, .inr (.inl nu))), (h13, .inr (1, [.int 8192, .ref h14, .int rs.2.2])), (h14, .inl (cI, rs.1, .inl rs.2.1)), (h15, .inl (cI, 40, .inl fs))]) [6, 2, 3, 7, 8, 9, 10, 11, 12, 13, 14, 15] rfl rfl) rfl hl.1 (Nat.le_of_ble_eq_true rfl) d_PF_fault_5) hP hS (fun H hP hS => ?_)
  refine W.eq (g2 := F0 m 8 ls [.int (M_Rd_faultNumber rd p0)]) rfl ?_
  have ef : M_PF_fault rd p0 = (M_Rd_faultNumber rd p0) := by rfl
  exact ct_piret hx hb hr rfl hlocks d_PF_fault_8 hQ hS (by rw [ef])
set_option maxHeartbeats 4000000 in
set_option maxRecDepth 100000 in
theorem c_PF_look {l : Launch} {D : va_G} {cB cI cJ : ClassId} (h0 h1 h2 h3 h4 h5 h6 h7 h8 h9 h10 h11 h12 h13 h14 h15 : Nat) (mk : Nat → Int32) (ro : RowS) (st : RowS) (rd : Nat → Int32) (ty : Nat → Int32) (ct : Nat → Int32) (pl : Nat → Int32) (nu : Nat → Int64) (rs : RowS) (fs : Nat → Int32) (hro : RowOK ro) (hst : StOK 512 st) (hrs : StOK 8192 rs) (p0 : Int32) : CtP classes BW l D (TY cB cI cJ) y_PF_look b_PF_look 2 (some .int) ({ frames := 1, cells := 0, slots := 0, locals := 20 } : Room) [.ref h0, .int p0] [(h0, .inr (6, [.ref h2, .ref h1, .ref h6])), (h1, .inr (2, [.ref h2, .ref h4, .int (mk 0), .int (mk 1), .int (mk 2), .int (mk 3), .int (mk 4), .int (mk 5), .int (mk 6), .int (mk 7), .int (mk 8), .int (mk 9), .int (mk 10), .int (mk 11)])), (h2, .inr (0, [.ref h3, .int ro.2.2])), (h3, .inl (cB, ro.1, .inl ro.2.1)), (h4, .inr (1, [.int 512, .ref h5, .int st.2.2])), (h5, .inl (cI, st.1, .inl st.2.1)), (h6, .inr (5, [.ref h2, .ref h7, .ref h11, .ref h13, .ref h15, .int (rd 0), .int (rd 1), .int (rd 2), .int (rd 3), .int (rd 4), .int (rd 5), .int (rd 6)])), (h7, .inr (4, [.ref h2, .ref h8, .ref h9, .ref h10])), (h8, .inl (cI, 41, .inl ty)), (h9, .inl (cI, 41, .inl ct)), (h10, .inl (cI, 41, .inl pl)), (h11, .inr (3, [.ref h12])), (h12, .inl (cJ, 520, .inr (.inl nu))), (h13, .inr (1, [.int 8192, .ref h14, .int rs.2.2])), (h14, .inl (cI, rs.1, .inl rs.2.1)), (h15, .inl (cI, 40, .inl fs))] (some (.int (M_PF_look mk ro st rd p0))) := by
  refine CtP.intro (by decide +kernel) (Nat.le_of_ble_eq_true rfl) ?_
  intro p e s m below meth c hx hb hr hml hlocks hnm hown hK hS hP hD ls hl Q hQ
  have hown : s.vm.findClass "PictureFile" = some m.cls := hown
  have hH : Hold classes BW D (TY cB cI cJ) p s m c b_PF_look 2 "PictureFile" := ⟨bw_ok, hx, hb, hml, hown, hK⟩
  have hw : ∀ {w : Cond}, w ∈ BW → w.before ([.ref h0, .int p0] : List Value).toArray s = true := fun h => Wd.at bw_ok hK.2 h
  have hl : lv_has ls 2 [(0, .ref h0), (1, .int p0)] := hl
  have bo0ro := RowOK.le hro
  have bo0st := StOK.le hst
  have bo0rs := StOK.le hrs
  refine lv_iload_n hx hb d_PF_look_0 rfl (lv_at hl 1 rfl) ?_
  by_cases c_1 : p0 = 0
  · refine lv_tableIn (tgt := 48) (off := 47) hx hb d_PF_look_1 (by rw [c_1]; decide) (by rw [c_1]; decide) (by rw [c_1]; rfl) (by decide) ?_
    refine lv_aload_n hx hb d_PF_look_48 rfl (lv_at hl 0 rfl) ?_
    refine va_get (D := D) (ci := 6) (C := R_PF) (T := F_PF) (N := 3) hx hb (kl_PF hK.2) (fun _ h => h) hown hK.1 hP 0 rfl rfl 0 (by decide) (hw kw_282) (fun _ h9 => h9) rfl d_PF_look_49 ?_
    refine va_getN (host := "PictureFile") (D := D) (ci := 0) (C := R_Row) (T := F_Row) (N := 2) hx hb (kl_Row hK.2) (fun _ h => h) hown hK.1 hP 2 rfl rfl 1 (by decide) (hw kw_283) (fun _ h9 => h9) rfl d_PF_look_52 ?_
    have ef : M_PF_look mk ro st rd p0 = ro.2.2 := by unfold M_PF_look; (try dsimp only); rw [if_pos c_1]
    exact ct_piret hx hb hr rfl hlocks d_PF_look_55 hQ hS (by rw [ef])
  by_cases c_2 : p0 = 1
  · refine lv_tableIn (tgt := 56) (off := 55) hx hb d_PF_look_1 (by rw [c_2]; decide) (by rw [c_2]; decide) (by rw [c_2]; rfl) (by decide) ?_
    refine lv_aload_n hx hb d_PF_look_56 rfl (lv_at hl 0 rfl) ?_
    refine va_get (D := D) (ci := 6) (C := R_PF) (T := F_PF) (N := 3) hx hb (kl_PF hK.2) (fun _ h => h) hown hK.1 hP 0 rfl rfl 1 (by decide) (hw kw_277) (fun _ h9 => h9) rfl d_PF_look_57 ?_
    refine va_getN (host := "PictureFile") (D := D) (ci := 2) (C := R_Mk) (T := F_Mk) (N := 14) hx hb (kl_Mk hK.2) (fun _ h => h) hown hK.1 hP 1 rfl rfl 2 (by decide) (hw kw_278) (fun _ h9 => h9) rfl d_PF_look_60 ?_
    refine lv_if_eq (tgt := 70) hx hb d_PF_look_63 (by decide) (fun c_3 => ?_) (fun c_3 => ?_)
    · refine lv_iconst (v := 0) hx hb d_PF_look_70 (by decide) ?_
      have ef : M_PF_look mk ro st rd p0 = 0 := by unfold M_PF_look; (try dsimp only); rw [if_neg c_1]; rw [if_pos c_2]; rw [if_pos c_3]
      exact ct_piret hx hb hr rfl hlocks d_PF_look_71 hQ hS (by rw [ef])
    · refine lv_iconst (v := 1) hx hb d_PF_look_66 (by decide) ?_
      refine lv_goto (tgt := 71) hx hb d_PF_look_67 (by decide) ?_
      have ef : M_PF_look mk ro st rd p0 = 1 := by unfold M_PF_look; (try dsimp only); rw [if_neg c_1]; rw [if_pos c_2]; rw [if_neg c_3]
      exact ct_piret hx hb hr rfl hlocks d_PF_look_71 hQ hS (by rw [ef])
  by_cases c_4 : p0 = 2
  · refine lv_tableIn (tgt := 72) (off := 71) hx hb d_PF_look_1 (by rw [c_4]; decide) (by rw [c_4]; decide) (by rw [c_4]; rfl) (by decide) ?_
    refine lv_aload_n hx hb d_PF_look_72 rfl (lv_at hl 0 rfl) ?_
    refine va_get (D := D) (ci := 6) (C := R_PF) (T := F_PF) (N := 3) hx hb (kl_PF hK.2) (fun _ h => h) hown hK.1 hP 0 rfl rfl 1 (by decide) (hw kw_277) (fun _ h9 => h9) rfl d_PF_look_73 ?_
    refine va_getN (host := "PictureFile") (D := D) (ci := 2) (C := R_Mk) (T := F_Mk) (N := 14) hx hb (kl_Mk hK.2) (fun _ h => h) hown hK.1 hP 1 rfl rfl 3 (by decide) (hw kw_305) (fun _ h9 => h9) rfl d_PF_look_76 ?_
    refine lv_if_eq (tgt := 86) hx hb d_PF_look_79 (by decide) (fun c_5 => ?_) (fun c_5 => ?_)
    · refine lv_iconst (v := 0) hx hb d_PF_look_86 (by decide) ?_
      have ef : M_PF_look mk ro st rd p0 = 0 := by unfold M_PF_look; (try dsimp only); rw [if_neg c_1]; rw [if_neg c_2]; rw [if_pos c_4]; rw [if_pos c_5]
      exact ct_piret hx hb hr rfl hlocks d_PF_look_87 hQ hS (by rw [ef])
    · refine lv_iconst (v := 1) hx hb d_PF_look_82 (by decide) ?_
      refine lv_goto (tgt := 87) hx hb d_PF_look_83 (by decide) ?_
      have ef : M_PF_look mk ro st rd p0 = 1 := by unfold M_PF_look; (try dsimp only); rw [if_neg c_1]; rw [if_neg c_2]; rw [if_pos c_4]; rw [if_neg c_5]
      exact ct_piret hx hb hr rfl hlocks d_PF_look_87 hQ hS (by rw [ef])
  by_cases c_6 : p0 = 3
  · refine lv_tableIn (tgt := 88) (off := 87) hx hb d_PF_look_1 (by rw [c_6]; decide) (by rw [c_6]; decide) (by rw [c_6]; rfl) (by decide) ?_
    refine lv_aload_n hx hb d_PF_look_88 rfl (lv_at hl 0 rfl) ?_
    refine va_get (D := D) (ci := 6) (C := R_PF) (T := F_PF) (N := 3) hx hb (kl_PF hK.2) (fun _ h => h) hown hK.1 hP 0 rfl rfl 1 (by decide) (hw kw_277) (fun _ h9 => h9) rfl d_PF_look_89 ?_
    refine va_getN (host := "PictureFile") (D := D) (ci := 2) (C := R_Mk) (T := F_Mk) (N := 14) hx hb (kl_Mk hK.2) (fun _ h => h) hown hK.1 hP 1 rfl rfl 5 (by decide) (hw kw_306) (fun _ h9 => h9) rfl d_PF_look_92 ?_
    have ef : M_PF_look mk ro st rd p0 = (mk 3) := by unfold M_PF_look; (try dsimp only); rw [if_neg c_1]; rw [if_neg c_2]; rw [if_neg c_4]; rw [if_pos c_6]
    exact ct_piret hx hb hr rfl hlocks d_PF_look_95 hQ hS (by rw [ef])
  by_cases c_7 : p0 = 4
  · refine lv_tableIn (tgt := 96) (off := 95) hx hb d_PF_look_1 (by rw [c_7]; decide) (by rw [c_7]; decide) (by rw [c_7]; rfl) (by decide) ?_
    refine lv_aload_n hx hb d_PF_look_96 rfl (lv_at hl 0 rfl) ?_
    refine va_get (D := D) (ci := 6) (C := R_PF) (T := F_PF) (N := 3) hx hb (kl_PF hK.2) (fun _ h => h) hown hK.1 hP 0 rfl rfl 1 (by decide) (hw kw_277) (fun _ h9 => h9) rfl d_PF_look_97 ?_
    refine ct_finP (ct_runVN (host := "PictureFile") (n := 0) (C := R_Mk) (b := h1) (As := []) (rest := []) hH (c_Mk_stripsToCome h1 h2 h3 h4 h5 mk ro st hro hst _) ⟨cal_Mk_stripsToCome, ⟨Nat.le_of_ble_eq_true rfl, Nat.le_of_ble_eq_true rfl⟩, (Nat.le_of_ble_eq_true rfl), (Nat.le_of_ble_eq_true rfl)⟩ kw_288 kw_289 kw_61 kw_290 kw_291 (va_recv hK.1 hP (ci := 2) (q0 := 1) rfl rfl) (hP.sub (ws' := [(h1, .inr (2, [.ref h2, .ref h4, .int (mk 0), .int (mk 1), .int (mk 2), .int (mk 3), .int (mk 4), .int (mk 5), .int (mk 6), .int (mk 7), .int (mk 8), .int (mk 9), .int (mk 10), .int (mk 11)])), (h2, .inr (0, [.ref h3, .int ro.2.2])), (h3, .inl (cB, ro.1, .inl ro.2.1)), (h4, .inr (1, [.int 512, .ref h5, .int st.2.2])), (h5, .inl (cI, st.1, .inl st.2.1))]) [1, 2, 3, 4, 5] rfl) (hD.sub (ws' := [(h1, .inr (2, [.ref h2, .ref h4, .int (mk 0), .int (mk 1), .int (mk 2), .int (mk 3), .int (mk 4), .int (mk 5), .int (mk 6), .int (mk 7), .int (mk 8), .int (mk 9), .int (mk 10), .int (mk 11)])), (h2, .inr (0, [.ref h3, .int ro.2.2])), (h3, .inl (cB, ro.1, .inl ro.2.1)), (h4, .inr (1, [.int 512, .ref h5, .int st.2.2])), (h5, .inl (cI, st.1, .inl st.2.1))]) [1, 2, 3, 4, 5] rfl rfl) rfl hl.1 (Nat.le_of_ble_eq_true rfl) d_PF_look_100) hP hS (fun H hP hS => ?_)
    refine W.eq (g2 := F0 m 103 ls [.int (M_Mk_stripsToCome mk st)]) rfl ?_
    have ef : M_PF_look mk ro st rd p0 = (M_Mk_stripsToCome mk st) := by unfold M_PF_look; (try dsimp only); rw [if_neg c_1]; rw [if_neg c_2]; rw [if_neg c_4]; rw [if_neg c_6]; rw [if_pos c_7]
    exact ct_piret hx hb hr rfl hlocks d_PF_look_103 hQ hS (by rw [ef])
  by_cases c_8 : p0 = 5
  · refine lv_tableIn (tgt := 104) (off := 103) hx hb d_PF_look_1 (by rw [c_8]; decide) (by rw [c_8]; decide) (by rw [c_8]; rfl) (by decide) ?_
    refine lv_aload_n hx hb d_PF_look_104 rfl (lv_at hl 0 rfl) ?_
    refine va_get (D := D) (ci := 6) (C := R_PF) (T := F_PF) (N := 3) hx hb (kl_PF hK.2) (fun _ h => h) hown hK.1 hP 0 rfl rfl 1 (by decide) (hw kw_277) (fun _ h9 => h9) rfl d_PF_look_105 ?_
    refine va_getN (host := "PictureFile") (D := D) (ci := 2) (C := R_Mk) (T := F_Mk) (N := 14) hx hb (kl_Mk hK.2) (fun _ h => h) hown hK.1 hP 1 rfl rfl 13 (by decide) (hw kw_307) (fun _ h9 => h9) rfl d_PF_look_108 ?_
    have ef : M_PF_look mk ro st rd p0 = (mk 11) := by unfold M_PF_look; (try dsimp only); rw [if_neg c_1]; rw [if_neg c_2]; rw [if_neg c_4]; rw [if_neg c_6]; rw [if_neg c_7]; rw [if_pos c_8]
    exact ct_piret hx hb hr rfl hlocks d_PF_look_111 hQ hS (by rw [ef])
  by_cases c_9 : p0 = 6
  · refine lv_tableIn (tgt := 112) (off := 111) hx hb d_PF_look_1 (by rw [c_9]; decide) (by rw [c_9]; decide) (by rw [c_9]; rfl) (by decide) ?_
    refine lv_aload_n hx hb d_PF_look_112 rfl (lv_at hl 0 rfl) ?_
    refine va_get (D := D) (ci := 6) (C := R_PF) (T := F_PF) (N := 3) hx hb (kl_PF hK.2) (fun _ h => h) hown hK.1 hP 0 rfl rfl 2 (by decide) (hw kw_300) (fun _ h9 => h9) rfl d_PF_look_113 ?_
    refine va_getN (host := "PictureFile") (D := D) (ci := 5) (C := R_Rd) (T := F_Rd) (N := 12) hx hb (kl_Rd hK.2) (fun _ h => h) hown hK.1 hP 6 rfl rfl 5 (by decide) (hw kw_308) (fun _ h9 => h9) rfl d_PF_look_116 ?_
    have ef : M_PF_look mk ro st rd p0 = (rd 0) := by unfold M_PF_look; (try dsimp only); rw [if_neg c_1]; rw [if_neg c_2]; rw [if_neg c_4]; rw [if_neg c_6]; rw [if_neg c_7]; rw [if_neg c_8]; rw [if_pos c_9]
    exact ct_piret hx hb hr rfl hlocks d_PF_look_119 hQ hS (by rw [ef])
  by_cases c_10 : p0 = 7
  · refine lv_tableIn (tgt := 120) (off := 119) hx hb d_PF_look_1 (by rw [c_10]; decide) (by rw [c_10]; decide) (by rw [c_10]; rfl) (by decide) ?_
    refine lv_aload_n hx hb d_PF_look_120 rfl (lv_at hl 0 rfl) ?_
    refine va_get (D := D) (ci := 6) (C := R_PF) (T := F_PF) (N := 3) hx hb (kl_PF hK.2) (fun _ h => h) hown hK.1 hP 0 rfl rfl 2 (by decide) (hw kw_300) (fun _ h9 => h9) rfl d_PF_look_121 ?_
    refine va_getN (host := "PictureFile") (D := D) (ci := 5) (C := R_Rd) (T := F_Rd) (N := 12) hx hb (kl_Rd hK.2) (fun _ h => h) hown hK.1 hP 6 rfl rfl 6 (by decide) (hw kw_309) (fun _ h9 => h9) rfl d_PF_look_124 ?_
    have ef : M_PF_look mk ro st rd p0 = (rd 1) := by unfold M_PF_look; (try dsimp only); rw [if_neg c_1]; rw [if_neg c_2]; rw [if_neg c_4]; rw [if_neg c_6]; rw [if_neg c_7]; rw [if_neg c_8]; rw [if_neg c_9]; rw [if_pos c_10]
    exact ct_piret hx hb hr rfl hlocks d_PF_look_127 hQ hS (by rw [ef])
  have nc_1 : ¬ p0.toInt = 0 := fun h => c_1 (Int32.toInt_inj.mp h)
  have nc_2 : ¬ p0.toInt = 1 := fun h => c_2 (Int32.toInt_inj.mp h)
  have nc_4 : ¬ p0.toInt = 2 := fun h => c_4 (Int32.toInt_inj.mp h)
  have nc_6 : ¬ p0.toInt = 3 := fun h => c_6 (Int32.toInt_inj.mp h)
  have nc_7 : ¬ p0.toInt = 4 := fun h => c_7 (Int32.toInt_inj.mp h)
  have nc_8 : ¬ p0.toInt = 5 := fun h => c_8 (Int32.toInt_inj.mp h)
  have nc_9 : ¬ p0.toInt = 6 := fun h => c_9 (Int32.toInt_inj.mp h)
  have nc_10 : ¬ p0.toInt = 7 := fun h => c_10 (Int32.toInt_inj.mp h)
  refine lv_tableD (tgt := 128) hx hb d_PF_look_1 (by rcases (show p0.toInt < 0 ∨ 7 < p0.toInt by omega) with h | h; exact Or.inl h; exact Or.inr (Or.inl h)) (by decide) ?_
  refine lv_iconst (v := (-1)) hx hb d_PF_look_128 (by decide) ?_
  have ef : M_PF_look mk ro st rd p0 = (-1) := by unfold M_PF_look; (try dsimp only); rw [if_neg c_1]; rw [if_neg c_2]; rw [if_neg c_4]; rw [if_neg c_6]; rw [if_neg c_7]; rw [if_neg c_8]; rw [if_neg c_9]; rw [if_neg c_10]
  exact ct_piret hx hb hr rfl hlocks d_PF_look_129 hQ hS (by rw [ef])
set_option maxHeartbeats 4000000 in
set_option maxRecDepth 100000 in
theorem c_Md_thrown {l : Launch} {D : va_G} {cB cI cJ : ClassId} (h0 h1 h2 h3 h4 h5 h6 h7 h8 : Nat) (md : Nat → Int32) (sz : Int32) (fr : Int32) (bf : Nat → Int32) (mp : Nat → Int32) (ml : Nat → Int32) (mn : Nat → Int64) (mf : Nat → Int32) (sp : Nat → Int32) (sl : Nat → Int32) (et : Nat → Int32) : CtP classes BW l D (TY cB cI cJ) y_Md_thrown b_Md_thrown 1 (some .int) ({ frames := 0, cells := 0, slots := 0, locals := 0 } : Room) [.ref h0] [(h0, .inr (7, [.int (md 0), .ref h1, .int sz, .int (md 1), .int (md 2), .int (md 3), .int (md 4), .int (md 5), .int (md 6), .int (md 7), .int (md 8), .int (md 9), .int (md 10), .int (md 11), .int (md 12), .int fr, .int (md 13), .ref h2, .ref h3, .int (md 14), .int (md 15), .ref h4, .ref h5, .ref h6, .ref h7, .int (md 16), .int (md 17), .int (md 18), .int (md 19), .ref h8])), (h1, .inl (cB, 65536, .inl bf)), (h2, .inl (cI, 512, .inl mp)), (h3, .inl (cI, 512, .inl ml)), (h4, .inl (cJ, 520, .inr (.inl mn))), (h5, .inl (cI, 41, .inl mf)), (h6, .inl (cI, 8192, .inl sp)), (h7, .inl (cI, 8192, .inl sl)), (h8, .inl (cI, 11, .inl et))] (some (.int (M_Md_thrown md))) := by
  refine CtP.intro (by decide +kernel) (Nat.le_of_ble_eq_true rfl) ?_
  intro p e s m below meth c hx hb hr hml hlocks hnm hown hK hS hP hD ls hl Q hQ
  have hown : s.vm.findClass "PictureFileModel" = some m.cls := hown
  have hH : Hold classes BW D (TY cB cI cJ) p s m c b_Md_thrown 1 "PictureFileModel" := ⟨bw_ok, hx, hb, hml, hown, hK⟩
  have hw : ∀ {w : Cond}, w ∈ BW → w.before ([.ref h0] : List Value).toArray s = true := fun h => Wd.at bw_ok hK.2 h
  have hl : lv_has ls 1 [(0, .ref h0)] := hl
  refine lv_aload_n hx hb d_Md_thrown_0 rfl (lv_at hl 0 rfl) ?_
  refine va_get (D := D) (ci := 7) (C := R_Md) (T := F_Md) (N := 30) hx hb (kl_Md hK.2) (fun _ h => h) hown hK.1 hP 0 rfl rfl 0 (by decide) (hw kw_310) (fun _ h9 => h9) rfl d_Md_thrown_1 ?_
  have ef : M_Md_thrown md = (md 0) := by rfl
  exact ct_piret hx hb hr rfl hlocks d_Md_thrown_4 hQ hS (by rw [ef])
set_option maxHeartbeats 4000000 in
set_option maxRecDepth 100000 in
theorem c_Md_at {l : Launch} {D : va_G} {cB cI cJ : ClassId} (h0 h1 h2 h3 h4 h5 h6 h7 h8 : Nat) (md : Nat → Int32) (sz : Int32) (fr : Int32) (bf : Nat → Int32) (mp : Nat → Int32) (ml : Nat → Int32) (mn : Nat → Int64) (mf : Nat → Int32) (sp : Nat → Int32) (sl : Nat → Int32) (et : Nat → Int32) (p0 : Int32) (hG : G_Md_at p0) : CtP classes BW l D (TY cB cI cJ) y_Md_at b_Md_at 2 (some .int) ({ frames := 0, cells := 0, slots := 0, locals := 0 } : Room) [.ref h0, .int p0] [(h0, .inr (7, [.int (md 0), .ref h1, .int sz, .int (md 1), .int (md 2), .int (md 3), .int (md 4), .int (md 5), .int (md 6), .int (md 7), .int (md 8), .int (md 9), .int (md 10), .int (md 11), .int (md 12), .int fr, .int (md 13), .ref h2, .ref h3, .int (md 14), .int (md 15), .ref h4, .ref h5, .ref h6, .ref h7, .int (md 16), .int (md 17), .int (md 18), .int (md 19), .ref h8])), (h1, .inl (cB, 65536, .inl bf)), (h2, .inl (cI, 512, .inl mp)), (h3, .inl (cI, 512, .inl ml)), (h4, .inl (cJ, 520, .inr (.inl mn))), (h5, .inl (cI, 41, .inl mf)), (h6, .inl (cI, 8192, .inl sp)), (h7, .inl (cI, 8192, .inl sl)), (h8, .inl (cI, 11, .inl et))] (some (.int (M_Md_at bf p0))) := by
  refine CtP.intro (by decide +kernel) (Nat.le_of_ble_eq_true rfl) ?_
  intro p e s m below meth c hx hb hr hml hlocks hnm hown hK hS hP hD ls hl Q hQ
  have hown : s.vm.findClass "PictureFileModel" = some m.cls := hown
  have hH : Hold classes BW D (TY cB cI cJ) p s m c b_Md_at 2 "PictureFileModel" := ⟨bw_ok, hx, hb, hml, hown, hK⟩
  have hw : ∀ {w : Cond}, w ∈ BW → w.before ([.ref h0, .int p0] : List Value).toArray s = true := fun h => Wd.at bw_ok hK.2 h
  have hl : lv_has ls 2 [(0, .ref h0), (1, .int p0)] := hl
  unfold G_Md_at at hG
  refine lv_aload_n hx hb d_Md_at_0 rfl (lv_at hl 0 rfl) ?_
  refine va_get (D := D) (ci := 7) (C := R_Md) (T := F_Md) (N := 30) hx hb (kl_Md hK.2) (fun _ h => h) hown hK.1 hP 0 rfl rfl 1 (by decide) (hw kw_311) (fun _ h9 => h9) rfl d_Md_at_1 ?_
  refine lv_iload_n hx hb d_Md_at_4 rfl (lv_at hl 1 rfl) ?_
  have g_1 := hG
  refine va_bald hx hb hK.1 hP 1 0 rfl rfl (g_1) d_Md_at_5 ?_
  refine lv_sipush (v := 255) hx hb d_Md_at_6 (by decide) ?_
  refine lv_iand hx hb d_Md_at_9 ?_
  have ef : M_Md_at bf p0 = ((bf p0.toNatClampNeg) &&& 255) := by rfl
  exact ct_piret hx hb hr rfl hlocks d_Md_at_10 hQ hS (by rw [ef])
set_option maxHeartbeats 4000000 in
set_option maxRecDepth 100000 in
theorem c_Md_one {l : Launch} {D : va_G} {cB cI cJ : ClassId} (h0 h1 h2 h3 h4 h5 h6 h7 h8 : Nat) (md : Nat → Int32) (sz : Int32) (fr : Int32) (bf : Nat → Int32) (mp : Nat → Int32) (ml : Nat → Int32) (mn : Nat → Int64) (mf : Nat → Int32) (sp : Nat → Int32) (sl : Nat → Int32) (et : Nat → Int32) (p0 : Int32) (hG : G_Md_one sz) : Ct classes BW l D (TY cB cI cJ) y_Md_one b_Md_one 2 none ({ frames := 0, cells := 0, slots := 0, locals := 0 } : Room) [.ref h0, .int p0] [(h0, .inr (7, [.int (md 0), .ref h1, .int sz, .int (md 1), .int (md 2), .int (md 3), .int (md 4), .int (md 5), .int (md 6), .int (md 7), .int (md 8), .int (md 9), .int (md 10), .int (md 11), .int (md 12), .int fr, .int (md 13), .ref h2, .ref h3, .int (md 14), .int (md 15), .ref h4, .ref h5, .ref h6, .ref h7, .int (md 16), .int (md 17), .int (md 18), .int (md 19), .ref h8])), (h1, .inl (cB, 65536, .inl bf)), (h2, .inl (cI, 512, .inl mp)), (h3, .inl (cI, 512, .inl ml)), (h4, .inl (cJ, 520, .inr (.inl mn))), (h5, .inl (cI, 41, .inl mf)), (h6, .inl (cI, 8192, .inl sp)), (h7, .inl (cI, 8192, .inl sl)), (h8, .inl (cI, 11, .inl et))] (fun u : Int32 × (Nat → Int32) => u = M_Md_one sz bf p0) (fun u => none) (fun u => [(h0, .inr (7, [.int (md 0), .ref h1, .int u.1, .int (md 1), .int (md 2), .int (md 3), .int (md 4), .int (md 5), .int (md 6), .int (md 7), .int (md 8), .int (md 9), .int (md 10), .int (md 11), .int (md 12), .int fr, .int (md 13), .ref h2, .ref h3, .int (md 14), .int (md 15), .ref h4, .ref h5, .ref h6, .ref h7, .int (md 16), .int (md 17), .int (md 18), .int (md 19), .ref h8])), (h1, .inl (cB, 65536, .inl u.2)), (h2, .inl (cI, 512, .inl mp)), (h3, .inl (cI, 512, .inl ml)), (h4, .inl (cJ, 520, .inr (.inl mn))), (h5, .inl (cI, 41, .inl mf)), (h6, .inl (cI, 8192, .inl sp)), (h7, .inl (cI, 8192, .inl sl)), (h8, .inl (cI, 11, .inl et))]) (0) (0) := by
  refine Ct.intro (by decide +kernel) (Nat.le_of_ble_eq_true rfl) ?_
  intro p e s m below meth c hx hb hr hml hlocks hnm hown hK A hAe hA hS hP hD ls hl Q hQ
  have hown : s.vm.findClass "PictureFileModel" = some m.cls := hown
  have hH : Hold classes BW D (TY cB cI cJ) p s m c b_Md_one 2 "PictureFileModel" := ⟨bw_ok, hx, hb, hml, hown, hK⟩
  have hw : ∀ {w : Cond}, w ∈ BW → w.before ([.ref h0, .int p0] : List Value).toArray s = true := fun h => Wd.at bw_ok hK.2 h
  have hl : lv_has ls 2 [(0, .ref h0), (1, .int p0)] := hl
  unfold G_Md_one at hG
  refine lv_aload_n hx hb d_Md_one_0 rfl (lv_at hl 0 rfl) ?_
  refine va_get (D := D) (ci := 7) (C := R_Md) (T := F_Md) (N := 30) hx hb (kl_Md hK.2) (fun _ h => h) hown hK.1 hP 0 rfl rfl 1 (by decide) (hw kw_311) (fun _ h9 => h9) rfl d_Md_one_1 ?_
  refine lv_aload_n hx hb d_Md_one_4 rfl (lv_at hl 0 rfl) ?_
  refine va_get (D := D) (ci := 7) (C := R_Md) (T := F_Md) (N := 30) hx hb (kl_Md hK.2) (fun _ h => h) hown hK.1 hP 0 rfl rfl 2 (by decide) (hw kw_312) (fun _ h9 => h9) rfl d_Md_one_5 ?_
  refine lv_iload_n hx hb d_Md_one_8 rfl (lv_at hl 1 rfl) ?_
  refine lv_i2b hx hb d_Md_one_9 rfl ?_
  have g_1 := hG
  refine va_bast hx hb hK.1 hP hD hS 1 0 rfl rfl (g_1) d_Md_one_10 (fun H locs hP hD hS => ?_)
  have hP : va_P D classes [(h0, .inr (7, [.int (md 0), .ref h1, .int sz, .int (md 1), .int (md 2), .int (md 3), .int (md 4), .int (md 5), .int (md 6), .int (md 7), .int (md 8), .int (md 9), .int (md 10), .int (md 11), .int (md 12), .int fr, .int (md 13), .ref h2, .ref h3, .int (md 14), .int (md 15), .ref h4, .ref h5, .ref h6, .ref h7, .int (md 16), .int (md 17), .int (md 18), .int (md 19), .ref h8])), (h1, .inl (cB, 65536, .inl (upd bf sz.toNatClampNeg (vp_nar .byte p0.toInt8.toInt32)))), (h2, .inl (cI, 512, .inl mp)), (h3, .inl (cI, 512, .inl ml)), (h4, .inl (cJ, 520, .inr (.inl mn))), (h5, .inl (cI, 41, .inl mf)), (h6, .inl (cI, 8192, .inl sp)), (h7, .inl (cI, 8192, .inl sl)), (h8, .inl (cI, 11, .inl et))] H := hP
  have hD : va_D A [(h0, .inr (7, [.int (md 0), .ref h1, .int sz, .int (md 1), .int (md 2), .int (md 3), .int (md 4), .int (md 5), .int (md 6), .int (md 7), .int (md 8), .int (md 9), .int (md 10), .int (md 11), .int (md 12), .int fr, .int (md 13), .ref h2, .ref h3, .int (md 14), .int (md 15), .ref h4, .ref h5, .ref h6, .ref h7, .int (md 16), .int (md 17), .int (md 18), .int (md 19), .ref h8])), (h1, .inl (cB, 65536, .inl (upd bf sz.toNatClampNeg (vp_nar .byte p0.toInt8.toInt32)))), (h2, .inl (cI, 512, .inl mp)), (h3, .inl (cI, 512, .inl ml)), (h4, .inl (cJ, 520, .inr (.inl mn))), (h5, .inl (cI, 41, .inl mf)), (h6, .inl (cI, 8192, .inl sp)), (h7, .inl (cI, 8192, .inl sl)), (h8, .inl (cI, 11, .inl et))] := hD
  refine lv_aload_n hx hb d_Md_one_11 rfl (lv_at hl 0 rfl) ?_
  refine lv_dup hx hb d_Md_one_12 rfl ?_
  refine va_get (D := D) (ci := 7) (C := R_Md) (T := F_Md) (N := 30) hx hb (kl_Md hK.2) (fun _ h => h) hown hK.1 hP 0 rfl rfl 2 (by decide) (hw kw_312) (fun _ h9 => h9) rfl d_Md_one_13 ?_
  refine lv_iconst (v := 1) hx hb d_Md_one_16 (by decide) ?_
  refine lv_iadd hx hb d_Md_one_17 ?_
  refine lv_topi (fun y1 e1 => ?_)
  refine va_put (D := D) (ci := 7) (v := .int y1) (ty := .int) (C := R_Md) (T := F_Md) (N := 30) hx hb (kl_Md hK.2) (fun _ h => h) t_Md t_Md_ok n_Md hown hK.1 hP hD hS 0 rfl rfl 2 (by decide) (hw kw_312) (fun _ h9 => h9) rfl (t_Md_ok 2 (by decide)) rfl rfl (Nat.le_of_ble_eq_true rfl) d_Md_one_18 (fun H locs hP hD hS => ?_)
  have hP : va_P D classes [(h0, .inr (7, [.int (md 0), .ref h1, .int y1, .int (md 1), .int (md 2), .int (md 3), .int (md 4), .int (md 5), .int (md 6), .int (md 7), .int (md 8), .int (md 9), .int (md 10), .int (md 11), .int (md 12), .int fr, .int (md 13), .ref h2, .ref h3, .int (md 14), .int (md 15), .ref h4, .ref h5, .ref h6, .ref h7, .int (md 16), .int (md 17), .int (md 18), .int (md 19), .ref h8])), (h1, .inl (cB, 65536, .inl (upd bf sz.toNatClampNeg (vp_nar .byte p0.toInt8.toInt32)))), (h2, .inl (cI, 512, .inl mp)), (h3, .inl (cI, 512, .inl ml)), (h4, .inl (cJ, 520, .inr (.inl mn))), (h5, .inl (cI, 41, .inl mf)), (h6, .inl (cI, 8192, .inl sp)), (h7, .inl (cI, 8192, .inl sl)), (h8, .inl (cI, 11, .inl et))] H := hP
  have hD : va_D A [(h0, .inr (7, [.int (md 0), .ref h1, .int y1, .int (md 1), .int (md 2), .int (md 3), .int (md 4), .int (md 5), .int (md 6), .int (md 7), .int (md 8), .int (md 9), .int (md 10), .int (md 11), .int (md 12), .int fr, .int (md 13), .ref h2, .ref h3, .int (md 14), .int (md 15), .ref h4, .ref h5, .ref h6, .ref h7, .int (md 16), .int (md 17), .int (md 18), .int (md 19), .ref h8])), (h1, .inl (cB, 65536, .inl (upd bf sz.toNatClampNeg (vp_nar .byte p0.toInt8.toInt32)))), (h2, .inl (cI, 512, .inl mp)), (h3, .inl (cI, 512, .inl ml)), (h4, .inl (cJ, 520, .inr (.inl mn))), (h5, .inl (cI, 41, .inl mf)), (h6, .inl (cI, 8192, .inl sp)), (h7, .inl (cI, 8192, .inl sl)), (h8, .inl (cI, 11, .inl et))] := hD
  have ef : M_Md_one sz bf p0 = (y1, (upd bf sz.toNatClampNeg (vp_nar .byte p0.toInt8.toInt32))) := by unfold M_Md_one; (try dsimp only); (try rw [← e1])
  exact ct_vret hx hb hr hlocks d_Md_one_21 ⟨Nat.zero_le _, Nat.zero_le _⟩ hQ hAe hS (y1, (upd bf sz.toNatClampNeg (vp_nar .byte p0.toInt8.toInt32))) rfl ef.symm (hP.sub [0, 1, 2, 3, 4, 5, 6, 7, 8] rfl) (hD.sub [0, 1, 2, 3, 4, 5, 6, 7, 8] rfl rfl)
