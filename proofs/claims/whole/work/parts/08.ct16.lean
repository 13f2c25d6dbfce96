set_option maxHeartbeats 4000000 in
set_option maxRecDepth 100000 in
theorem c_PF_cut {l : Launch} {D : va_G} {cB cI cJ : ClassId} (h0 h1 h2 h3 h4 h5 h6 h7 h8 h9 h10 h11 h12 h13 h14 h15 : Nat) (mk : Nat → Int32) (ro : RowS) (st : RowS) (rd : Nat → Int32) (ty : Nat → Int32) (ct : Nat → Int32) (pl : Nat → Int32) (nu : Nat → Int64) (rs : RowS) (fs : Nat → Int32) (hro : RowOK ro) (hst : StOK 512 st) (hrs : StOK 8192 rs) (p0 : Int32) : Ct classes BW l D (TY cB cI cJ) y_PF_cut b_PF_cut 2 (some .boolean) ({ frames := 0, cells := 0, slots := 0, locals := 0 } : Room) [.ref h0, .int p0] [(h0, .inr (6, [.ref h2, .ref h1, .ref h6])), (h1, .inr (2, [.ref h2, .ref h4, .int (mk 0), .int (mk 1), .int (mk 2), .int (mk 3), .int (mk 4), .int (mk 5), .int (mk 6), .int (mk 7), .int (mk 8), .int (mk 9), .int (mk 10), .int (mk 11)])), (h2, .inr (0, [.ref h3, .int ro.2.2])), (h3, .inl (cB, ro.1, .inl ro.2.1)), (h4, .inr (1, [.int 512, .ref h5, .int st.2.2])), (h5, .inl (cI, st.1, .inl st.2.1)), (h6, .inr (5, [.ref h2, .ref h7, .ref h11, .ref h13, .ref h15, .int (rd 0), .int (rd 1), .int (rd 2), .int (rd 3), .int (rd 4), .int (rd 5), .int (rd 6)])), (h7, .inr (4, [.ref h2, .ref h8, .ref h9, .ref h10])), (h8, .inl (cI, 41, .inl ty)), (h9, .inl (cI, 41, .inl ct)), (h10, .inl (cI, 41, .inl pl)), (h11, .inr (3, [.ref h12])), (h12, .inl (cJ, 520, .inr (.inl nu))), (h13, .inr (1, [.int 8192, .ref h14, .int rs.2.2])), (h14, .inl (cI, rs.1, .inl rs.2.1)), (h15, .inl (cI, 40, .inl fs))] (fun u : Nat × Int32 × RowS => u.2 = M_PF_cut mk ro p0 ∧ RowOK u.2.2 ∧ ro.1 ≤ u.2.2.1 ∧ (u.2.1 = 0 ∨ u.2.1 = 1)) (fun u => some (.int u.2.1)) (fun u => [(h0, .inr (6, [.ref h2, .ref h1, .ref h6])), (h1, .inr (2, [.ref h2, .ref h4, .int (mk 0), .int (mk 1), .int (mk 2), .int (mk 3), .int (mk 4), .int (mk 5), .int (mk 6), .int (mk 7), .int (mk 8), .int (mk 9), .int (mk 10), .int (mk 11)])), (h2, .inr (0, [.ref u.1, .int u.2.2.2.2])), (u.1, .inl (cB, u.2.2.1, .inl u.2.2.2.1)), (h4, .inr (1, [.int 512, .ref h5, .int st.2.2])), (h5, .inl (cI, st.1, .inl st.2.1)), (h6, .inr (5, [.ref h2, .ref h7, .ref h11, .ref h13, .ref h15, .int (rd 0), .int (rd 1), .int (rd 2), .int (rd 3), .int (rd 4), .int (rd 5), .int (rd 6)])), (h7, .inr (4, [.ref h2, .ref h8, .ref h9, .ref h10])), (h8, .inl (cI, 41, .inl ty)), (h9, .inl (cI, 41, .inl ct)), (h10, .inl (cI, 41, .inl pl)), (h11, .inr (3, [.ref h12])), (h12, .inl (cJ, 520, .inr (.inl nu))), (h13, .inr (1, [.int 8192, .ref h14, .int rs.2.2])), (h14, .inl (cI, rs.1, .inl rs.2.1)), (h15, .inl (cI, 40, .inl fs))]) (gC 1024 ro.1 (M_PF_cut mk ro p0).2.1) (gS ro.1 (M_PF_cut mk ro p0).2.1) := by
  refine Ct.intro (by decide +kernel) (Nat.le_of_ble_eq_true rfl) ?_
  intro p e s m below meth c hx hb hr hml hlocks hnm hown hK A hAe hA hS hP hD ls hl Q hQ
  have hown : s.vm.findClass "PictureFile" = some m.cls := hown
  have hH : Hold classes BW D (TY cB cI cJ) p s m c b_PF_cut 2 "PictureFile" := ⟨bw_ok, hx, hb, hml, hown, hK⟩
  have hw : ∀ {w : Cond}, w ∈ BW → w.before ([.ref h0, .int p0] : List Value).toArray s = true := fun h => Wd.at bw_ok hK.2 h
  have hl : lv_has ls 2 [(0, .ref h0), (1, .int p0)] := hl
  have bo0ro := RowOK.le hro
  have bo0st := StOK.le hst
  have bo0rs := StOK.le hrs
  refine lv_aload_n hx hb d_PF_cut_0 rfl (lv_at hl 0 rfl) ?_
  refine va_get (D := D) (ci := 6) (C := R_PF) (T := F_PF) (N := 3) hx hb (kl_PF hK.2) (fun _ h => h) hown hK.1 hP 0 rfl rfl 1 (by decide) (hw kw_277) (fun _ h9 => h9) rfl d_PF_cut_1 ?_
  refine va_getN (host := "PictureFile") (D := D) (ci := 2) (C := R_Mk) (T := F_Mk) (N := 14) hx hb (kl_Mk hK.2) (fun _ h => h) hown hK.1 hP 1 rfl rfl 2 (by decide) (hw kw_278) (fun _ h9 => h9) rfl d_PF_cut_4 ?_
  refine lv_if_ne (tgt := 25) hx hb d_PF_cut_7 (by decide) (fun c_1 => ?_) (fun c_1 => ?_)
  · refine lv_iconst (v := 0) hx hb d_PF_cut_25 (by decide) ?_
    have ef : M_PF_cut mk ro p0 = (0, ro) := by unfold M_PF_cut; (try dsimp only); rw [if_neg c_1]
    exact ct_iret hx hb hr (rfl) hlocks d_PF_cut_26 ⟨Nat.zero_le _, Nat.zero_le _⟩ hQ hAe hS (h3, (0, ro)) rfl ⟨ef.symm, hro, (by show ro.1 ≤ ro.1; omega), (Or.inl rfl)⟩ (hP.sub [0, 1, 2, 3, 4, 5, 6, 7, 8, 9, 10, 11, 12, 13, 14, 15] rfl) (hD.sub [0, 1, 2, 3, 4, 5, 6, 7, 8, 9, 10, 11, 12, 13, 14, 15] rfl rfl)
  · refine lv_iload_n hx hb d_PF_cut_10 rfl (lv_at hl 1 rfl) ?_
    refine lv_if_lt (tgt := 25) hx hb d_PF_cut_11 (by decide) (fun c_2 => ?_) (fun c_2 => ?_)
    · refine lv_iconst (v := 0) hx hb d_PF_cut_25 (by decide) ?_
      have ef : M_PF_cut mk ro p0 = (0, ro) := by unfold M_PF_cut; (try dsimp only); rw [if_pos c_1]; rw [if_pos c_2]
      exact ct_iret hx hb hr (rfl) hlocks d_PF_cut_26 ⟨Nat.zero_le _, Nat.zero_le _⟩ hQ hAe hS (h3, (0, ro)) rfl ⟨ef.symm, hro, (by show ro.1 ≤ ro.1; omega), (Or.inl rfl)⟩ (hP.sub [0, 1, 2, 3, 4, 5, 6, 7, 8, 9, 10, 11, 12, 13, 14, 15] rfl) (hD.sub [0, 1, 2, 3, 4, 5, 6, 7, 8, 9, 10, 11, 12, 13, 14, 15] rfl rfl)
    · refine lv_iload_n hx hb d_PF_cut_14 rfl (lv_at hl 1 rfl) ?_
      refine lv_aload_n hx hb d_PF_cut_15 rfl (lv_at hl 0 rfl) ?_
      refine va_get (D := D) (ci := 6) (C := R_PF) (T := F_PF) (N := 3) hx hb (kl_PF hK.2) (fun _ h => h) hown hK.1 hP 0 rfl rfl 0 (by decide) (hw kw_282) (fun _ h9 => h9) rfl d_PF_cut_16 ?_
      refine va_getN (host := "PictureFile") (D := D) (ci := 0) (C := R_Row) (T := F_Row) (N := 2) hx hb (kl_Row hK.2) (fun _ h => h) hown hK.1 hP 2 rfl rfl 1 (by decide) (hw kw_283) (fun _ h9 => h9) rfl d_PF_cut_19 ?_
      refine lv_icmp_le (tgt := 27) hx hb d_PF_cut_22 (by decide) (fun c_3 => ?_) (fun c_3 => ?_)
      · refine lv_aload_n hx hb d_PF_cut_27 rfl (lv_at hl 0 rfl) ?_
        refine va_get (D := D) (ci := 6) (C := R_PF) (T := F_PF) (N := 3) hx hb (kl_PF hK.2) (fun _ h => h) hown hK.1 hP 0 rfl rfl 0 (by decide) (hw kw_282) (fun _ h9 => h9) rfl d_PF_cut_28 ?_
        refine lv_iload_n hx hb d_PF_cut_31 rfl (lv_at hl 1 rfl) ?_
        refine va_putN (host := "PictureFile") (D := D) (ci := 0) (v := .int p0) (ty := .int) (C := R_Row) (T := F_Row) (N := 2) hx hb (kl_Row hK.2) (fun _ h => h) t_Row t_Row_ok n_Row hown hK.1 hP hD hS 2 rfl rfl 1 (by decide) (hw kw_283) (fun _ h9 => h9) rfl (t_Row_ok 1 (by decide)) rfl rfl (Nat.le_of_ble_eq_true rfl) d_PF_cut_32 (fun H locs hP hD hS => ?_)
        have hP : va_P D classes [(h0, .inr (6, [.ref h2, .ref h1, .ref h6])), (h1, .inr (2, [.ref h2, .ref h4, .int (mk 0), .int (mk 1), .int (mk 2), .int (mk 3), .int (mk 4), .int (mk 5), .int (mk 6), .int (mk 7), .int (mk 8), .int (mk 9), .int (mk 10), .int (mk 11)])), (h2, .inr (0, [.ref h3, .int p0])), (h3, .inl (cB, ro.1, .inl ro.2.1)), (h4, .inr (1, [.int 512, .ref h5, .int st.2.2])), (h5, .inl (cI, st.1, .inl st.2.1)), (h6, .inr (5, [.ref h2, .ref h7, .ref h11, .ref h13, .ref h15, .int (rd 0), .int (rd 1), .int (rd 2), .int (rd 3), .int (rd 4), .int (rd 5), .int (rd 6)])), (h7, .inr (4, [.ref h2, .ref h8, .ref h9, .ref h10])), (h8, .inl (cI, 41, .inl ty)), (h9, .inl (cI, 41, .inl ct)), (h10, .inl (cI, 41, .inl pl)), (h11, .inr (3, [.ref h12])), (h12, .inl (cJ, 520, .inr (.inl nu))), (h13, .inr (1, [.int 8192, .ref h14, .int rs.2.2])), (h14, .inl (cI, rs.1, .inl rs.2.1)), (h15, .inl (cI, 40, .inl fs))] H := hP
        have hD : va_D A [(h0, .inr (6, [.ref h2, .ref h1, .ref h6])), (h1, .inr (2, [.ref h2, .ref h4, .int (mk 0), .int (mk 1), .int (mk 2), .int (mk 3), .int (mk 4), .int (mk 5), .int (mk 6), .int (mk 7), .int (mk 8), .int (mk 9), .int (mk 10), .int (mk 11)])), (h2, .inr (0, [.ref h3, .int p0])), (h3, .inl (cB, ro.1, .inl ro.2.1)), (h4, .inr (1, [.int 512, .ref h5, .int st.2.2])), (h5, .inl (cI, st.1, .inl st.2.1)), (h6, .inr (5, [.ref h2, .ref h7, .ref h11, .ref h13, .ref h15, .int (rd 0), .int (rd 1), .int (rd 2), .int (rd 3), .int (rd 4), .int (rd 5), .int (rd 6)])), (h7, .inr (4, [.ref h2, .ref h8, .ref h9, .ref h10])), (h8, .inl (cI, 41, .inl ty)), (h9, .inl (cI, 41, .inl ct)), (h10, .inl (cI, 41, .inl pl)), (h11, .inr (3, [.ref h12])), (h12, .inl (cJ, 520, .inr (.inl nu))), (h13, .inr (1, [.int 8192, .ref h14, .int rs.2.2])), (h14, .inl (cI, rs.1, .inl rs.2.1)), (h15, .inl (cI, 40, .inl fs))] := hD
        refine lv_iconst (v := 1) hx hb d_PF_cut_35 (by decide) ?_
        have ef : M_PF_cut mk ro p0 = (1, (ro.1, ro.2.1, p0)) := by unfold M_PF_cut; (try dsimp only); rw [if_pos c_1]; rw [if_neg c_2]; rw [if_pos c_3]
        exact ct_iret hx hb hr (rfl) hlocks d_PF_cut_36 ⟨Nat.zero_le _, Nat.zero_le _⟩ hQ hAe hS (h3, (1, (ro.1, ro.2.1, p0))) rfl ⟨ef.symm, (RowOK.cut hro c_2 c_3), (by show ro.1 ≤ ro.1; omega), (Or.inr rfl)⟩ (hP.sub [0, 1, 2, 3, 4, 5, 6, 7, 8, 9, 10, 11, 12, 13, 14, 15] rfl) (hD.sub [0, 1, 2, 3, 4, 5, 6, 7, 8, 9, 10, 11, 12, 13, 14, 15] rfl rfl)
      · refine lv_iconst (v := 0) hx hb d_PF_cut_25 (by decide) ?_
        have ef : M_PF_cut mk ro p0 = (0, ro) := by unfold M_PF_cut; (try dsimp only); rw [if_pos c_1]; rw [if_neg c_2]; rw [if_neg c_3]
        exact ct_iret hx hb hr (rfl) hlocks d_PF_cut_26 ⟨Nat.zero_le _, Nat.zero_le _⟩ hQ hAe hS (h3, (0, ro)) rfl ⟨ef.symm, hro, (by show ro.1 ≤ ro.1; omega), (Or.inl rfl)⟩ (hP.sub [0, 1, 2, 3, 4, 5, 6, 7, 8, 9, 10, 11, 12, 13, 14, 15] rfl) (hD.sub [0, 1, 2, 3, 4, 5, 6, 7, 8, 9, 10, 11, 12, 13, 14, 15] rfl rfl)
set_option maxHeartbeats 4000000 in
set_option maxRecDepth 100000 in
theorem c_PF_bytes {l : Launch} {D : va_G} {cB cI cJ : ClassId} (h0 h1 h2 h3 h4 h5 h6 h7 h8 h9 h10 h11 h12 h13 h14 h15 : Nat) (mk : Nat → Int32) (ro : RowS) (st : RowS) (rd : Nat → Int32) (ty : Nat → Int32) (ct : Nat → Int32) (pl : Nat → Int32) (nu : Nat → Int64) (rs : RowS) (fs : Nat → Int32) (hro : RowOK ro) (hst : StOK 512 st) (hrs : StOK 8192 rs) (p0 : Int32) : CtP classes BW l D (TY cB cI cJ) y_PF_bytes b_PF_bytes 2 (some .long) ({ frames := 2, cells := 0, slots := 0, locals := 49 } : Room) [.ref h0, .int p0] [(h0, .inr (6, [.ref h2, .ref h1, .ref h6])), (h1, .inr (2, [.ref h2, .ref h4, .int (mk 0), .int (mk 1), .int (mk 2), .int (mk 3), .int (mk 4), .int (mk 5), .int (mk 6), .int (mk 7), .int (mk 8), .int (mk 9), .int (mk 10), .int (mk 11)])), (h2, .inr (0, [.ref h3, .int ro.2.2])), (h3, .inl (cB, ro.1, .inl ro.2.1)), (h4, .inr (1, [.int 512, .ref h5, .int st.2.2])), (h5, .inl (cI, st.1, .inl st.2.1)), (h6, .inr (5, [.ref h2, .ref h7, .ref h11, .ref h13, .ref h15, .int (rd 0), .int (rd 1), .int (rd 2), .int (rd 3), .int (rd 4), .int (rd 5), .int (rd 6)])), (h7, .inr (4, [.ref h2, .ref h8, .ref h9, .ref h10])), (h8, .inl (cI, 41, .inl ty)), (h9, .inl (cI, 41, .inl ct)), (h10, .inl (cI, 41, .inl pl)), (h11, .inr (3, [.ref h12])), (h12, .inl (cJ, 520, .inr (.inl nu))), (h13, .inr (1, [.int 8192, .ref h14, .int rs.2.2])), (h14, .inl (cI, rs.1, .inl rs.2.1)), (h15, .inl (cI, 40, .inl fs))] (some (.long (M_PF_bytes ro p0))) := by
  refine CtP.intro (by decide +kernel) (Nat.le_of_ble_eq_true rfl) ?_
  intro p e s m below meth c hx hb hr hml hlocks hnm hown hK hS hP hD ls hl Q hQ
  have hown : s.vm.findClass "PictureFile" = some m.cls := hown
  have hH : Hold classes BW D (TY cB cI cJ) p s m c b_PF_bytes 2 "PictureFile" := ⟨bw_ok, hx, hb, hml, hown, hK⟩
  have hw : ∀ {w : Cond}, w ∈ BW → w.before ([.ref h0, .int p0] : List Value).toArray s = true := fun h => Wd.at bw_ok hK.2 h
  have hl : lv_has ls 2 [(0, .ref h0), (1, .int p0)] := hl
  have bo0ro := RowOK.le hro
  have bo0st := StOK.le hst
  have bo0rs := StOK.le hrs
  refine lv_aload_n hx hb d_PF_bytes_0 rfl (lv_at hl 0 rfl) ?_
  refine va_get (D := D) (ci := 6) (C := R_PF) (T := F_PF) (N := 3) hx hb (kl_PF hK.2) (fun _ h => h) hown hK.1 hP 0 rfl rfl 0 (by decide) (hw kw_282) (fun _ h9 => h9) rfl d_PF_bytes_1 ?_
  refine lv_ldc2 (v := 8) hx hb hown (hw kw_0) d_PF_bytes_4 ?_
  refine lv_iload_n hx hb d_PF_bytes_7 rfl (lv_at hl 1 rfl) ?_
  refine lv_i2l hx hb d_PF_bytes_8 rfl ?_
  refine lv_lmul hx hb d_PF_bytes_9 ?_
  refine lv_bipush (v := 8) hx hb d_PF_bytes_10 (by decide) ?_
  refine lv_bipush (v := 77) hx hb d_PF_bytes_12 (by decide) ?_
  refine ct_finP (ct_runVN (host := "PictureFile") (n := 3) (C := R_Row) (b := h2) (As := [.long (8 * p0.toInt64), .int 8, .int 77]) (rest := []) hH (c_Row_number h2 h3 ro hro (8 * p0.toInt64) 8 77 _) ⟨cal_Row_number, ⟨Nat.le_of_ble_eq_true rfl, Nat.le_of_ble_eq_true rfl⟩, (Nat.le_of_ble_eq_true rfl), (Nat.le_of_ble_eq_true rfl)⟩ kw_287 kw_142 kw_24 kw_143 kw_144 (va_recv hK.1 hP (ci := 0) (q0 := 2) rfl rfl) (hP.sub (ws' := [(h2, .inr (0, [.ref h3, .int ro.2.2])), (h3, .inl (cB, ro.1, .inl ro.2.1))]) [2, 3] rfl) (hD.sub (ws' := [(h2, .inr (0, [.ref h3, .int ro.2.2])), (h3, .inl (cB, ro.1, .inl ro.2.1))]) [2, 3] rfl rfl) rfl hl.1 (Nat.le_of_ble_eq_true rfl) d_PF_bytes_14) hP hS (fun H hP hS => ?_)
  refine W.eq (g2 := F0 m 17 ls [.long (M_Row_number ro (8 * p0.toInt64) 8 77)]) rfl ?_
  have ef : M_PF_bytes ro p0 = (M_Row_number ro (8 * p0.toInt64) 8 77) := by rfl
  exact ct_plret hx hb hr hlocks d_PF_bytes_17 hQ hS (by rw [ef])
set_option maxHeartbeats 4000000 in
set_option maxRecDepth 100000 in
theorem c_PF_put {l : Launch} {D : va_G} {cB cI cJ : ClassId} (h0 h1 h2 h3 h4 h5 h6 h7 h8 h9 h10 h11 h12 h13 h14 h15 : Nat) (mk : Nat → Int32) (ro : RowS) (st : RowS) (rd : Nat → Int32) (ty : Nat → Int32) (ct : Nat → Int32) (pl : Nat → Int32) (nu : Nat → Int64) (rs : RowS) (fs : Nat → Int32) (hro : RowOK ro) (hst : StOK 512 st) (hrs : StOK 8192 rs) (p0 : Int64) (p1 : Int32) : Ct classes BW l D (TY cB cI cJ) y_PF_put b_PF_put 4 (some .boolean) ({ frames := 5, cells := 1201, slots := 405536, locals := 151 } : Room) [.ref h0, .long p0, .int p1] [(h0, .inr (6, [.ref h2, .ref h1, .ref h6])), (h1, .inr (2, [.ref h2, .ref h4, .int (mk 0), .int (mk 1), .int (mk 2), .int (mk 3), .int (mk 4), .int (mk 5), .int (mk 6), .int (mk 7), .int (mk 8), .int (mk 9), .int (mk 10), .int (mk 11)])), (h2, .inr (0, [.ref h3, .int ro.2.2])), (h3, .inl (cB, ro.1, .inl ro.2.1)), (h4, .inr (1, [.int 512, .ref h5, .int st.2.2])), (h5, .inl (cI, st.1, .inl st.2.1)), (h6, .inr (5, [.ref h2, .ref h7, .ref h11, .ref h13, .ref h15, .int (rd 0), .int (rd 1), .int (rd 2), .int (rd 3), .int (rd 4), .int (rd 5), .int (rd 6)])), (h7, .inr (4, [.ref h2, .ref h8, .ref h9, .ref h10])), (h8, .inl (cI, 41, .inl ty)), (h9, .inl (cI, 41, .inl ct)), (h10, .inl (cI, 41, .inl pl)), (h11, .inr (3, [.ref h12])), (h12, .inl (cJ, 520, .inr (.inl nu))), (h13, .inr (1, [.int 8192, .ref h14, .int rs.2.2])), (h14, .inl (cI, rs.1, .inl rs.2.1)), (h15, .inl (cI, 40, .inl fs))] (fun u : Nat × Int32 × (Nat → Int32) × RowS => u.2 = M_PF_put mk ro st p0 p1 ∧ RowOK u.2.2.2 ∧ ro.1 ≤ u.2.2.2.1 ∧ (u.2.1 = 0 ∨ u.2.1 = 1)) (fun u => some (.int u.2.1)) (fun u => [(h0, .inr (6, [.ref h2, .ref h1, .ref h6])), (h1, .inr (2, [.ref h2, .ref h4, .int (u.2.2.1 0), .int (u.2.2.1 1), .int (u.2.2.1 2), .int (u.2.2.1 3), .int (u.2.2.1 4), .int (u.2.2.1 5), .int (u.2.2.1 6), .int (u.2.2.1 7), .int (u.2.2.1 8), .int (u.2.2.1 9), .int (u.2.2.1 10), .int (u.2.2.1 11)])), (h2, .inr (0, [.ref u.1, .int u.2.2.2.2.2])), (u.1, .inl (cB, u.2.2.2.1, .inl u.2.2.2.2.1)), (h4, .inr (1, [.int 512, .ref h5, .int st.2.2])), (h5, .inl (cI, st.1, .inl st.2.1)), (h6, .inr (5, [.ref h2, .ref h7, .ref h11, .ref h13, .ref h15, .int (rd 0), .int (rd 1), .int (rd 2), .int (rd 3), .int (rd 4), .int (rd 5), .int (rd 6)])), (h7, .inr (4, [.ref h2, .ref h8, .ref h9, .ref h10])), (h8, .inl (cI, 41, .inl ty)), (h9, .inl (cI, 41, .inl ct)), (h10, .inl (cI, 41, .inl pl)), (h11, .inr (3, [.ref h12])), (h12, .inl (cJ, 520, .inr (.inl nu))), (h13, .inr (1, [.int 8192, .ref h14, .int rs.2.2])), (h14, .inl (cI, rs.1, .inl rs.2.1)), (h15, .inl (cI, 40, .inl fs))]) (gC 1024 ro.1 (M_PF_put mk ro st p0 p1).2.2.1) (gS ro.1 (M_PF_put mk ro st p0 p1).2.2.1) := by
  refine Ct.intro (by decide +kernel) (Nat.le_of_ble_eq_true rfl) ?_
  intro p e s m below meth c hx hb hr hml hlocks hnm hown hK A hAe hA hS hP hD ls hl Q hQ
  have hown : s.vm.findClass "PictureFile" = some m.cls := hown
  have hH : Hold classes BW D (TY cB cI cJ) p s m c b_PF_put 4 "PictureFile" := ⟨bw_ok, hx, hb, hml, hown, hK⟩
  have hw : ∀ {w : Cond}, w ∈ BW → w.before ([.ref h0, .long p0, .int p1] : List Value).toArray s = true := fun h => Wd.at bw_ok hK.2 h
  have hl : lv_has ls 4 [(0, .ref h0), (1, .long p0), (3, .int p1)] := hl
  have bo0ro := RowOK.le hro
  have bo0st := StOK.le hst
  have bo0rs := StOK.le hrs
  refine lv_iload_n hx hb d_PF_put_0 rfl (lv_at hl 2 rfl) ?_
  refine ct_finP (ct_runS (n := 1) (As := [.int p1]) (rest := []) hH (c_PF_isPartLength p1 _) ⟨cal_PF_isPartLength, ⟨Nat.le_of_ble_eq_true rfl, Nat.le_of_ble_eq_true rfl⟩, (Nat.le_of_ble_eq_true rfl), (Nat.le_of_ble_eq_true rfl)⟩ kw_279 kw_280 kw_3 kw_281 (hP.sub (ws' := []) [] rfl) (hD.sub (ws' := []) [] rfl rfl) rfl hl.1 (Nat.le_of_ble_eq_true rfl) d_PF_put_1) hP hS (fun H hP hS => ?_)
  refine W.eq (g2 := F0 m 4 ls [.int (M_PF_isPartLength p1)]) rfl ?_
  refine lv_if_eq (tgt := 28) hx hb d_PF_put_4 (by decide) (fun c_1 => ?_) (fun c_1 => ?_)
  · refine lv_iconst (v := 0) hx hb d_PF_put_28 (by decide) ?_
    have ef : M_PF_put mk ro st p0 p1 = (0, mk, ro) := by unfold M_PF_put; (try dsimp only); rw [if_pos c_1]
    exact ct_iret hx hb hr (rfl) hlocks d_PF_put_29 ⟨Nat.zero_le _, Nat.zero_le _⟩ hQ hAe hS (h3, (0, mk, ro)) rfl ⟨ef.symm, hro, (by show ro.1 ≤ ro.1; omega), (Or.inl rfl)⟩ (hP.sub [0, 1, 2, 3, 4, 5, 6, 7, 8, 9, 10, 11, 12, 13, 14, 15] rfl) (hD.sub [0, 1, 2, 3, 4, 5, 6, 7, 8, 9, 10, 11, 12, 13, 14, 15] rfl rfl)
  · refine lv_aload_n hx hb d_PF_put_7 rfl (lv_at hl 0 rfl) ?_
    refine va_get (D := D) (ci := 6) (C := R_PF) (T := F_PF) (N := 3) hx hb (kl_PF hK.2) (fun _ h => h) hown hK.1 hP 0 rfl rfl 1 (by decide) (hw kw_277) (fun _ h9 => h9) rfl d_PF_put_8 ?_
    refine ct_finP (ct_runVN (host := "PictureFile") (n := 0) (C := R_Mk) (b := h1) (As := []) (rest := []) hH (c_Mk_stripsToCome h1 h2 h3 h4 h5 mk ro st hro hst _) ⟨cal_Mk_stripsToCome, ⟨Nat.le_of_ble_eq_true rfl, Nat.le_of_ble_eq_true rfl⟩, (Nat.le_of_ble_eq_true rfl), (Nat.le_of_ble_eq_true rfl)⟩ kw_288 kw_289 kw_61 kw_290 kw_291 (va_recv hK.1 hP (ci := 2) (q0 := 1) rfl rfl) (hP.sub (ws' := [(h1, .inr (2, [.ref h2, .ref h4, .int (mk 0), .int (mk 1), .int (mk 2), .int (mk 3), .int (mk 4), .int (mk 5), .int (mk 6), .int (mk 7), .int (mk 8), .int (mk 9), .int (mk 10), .int (mk 11)])), (h2, .inr (0, [.ref h3, .int ro.2.2])), (h3, .inl (cB, ro.1, .inl ro.2.1)), (h4, .inr (1, [.int 512, .ref h5, .int st.2.2])), (h5, .inl (cI, st.1, .inl st.2.1))]) [1, 2, 3, 4, 5] rfl) (hD.sub (ws' := [(h1, .inr (2, [.ref h2, .ref h4, .int (mk 0), .int (mk 1), .int (mk 2), .int (mk 3), .int (mk 4), .int (mk 5), .int (mk 6), .int (mk 7), .int (mk 8), .int (mk 9), .int (mk 10), .int (mk 11)])), (h2, .inr (0, [.ref h3, .int ro.2.2])), (h3, .inl (cB, ro.1, .inl ro.2.1)), (h4, .inr (1, [.int 512, .ref h5, .int st.2.2])), (h5, .inl (cI, st.1, .inl st.2.1))]) [1, 2, 3, 4, 5] rfl rfl) rfl hl.1 (Nat.le_of_ble_eq_true rfl) d_PF_put_11) hP hS (fun H hP hS => ?_)
    refine W.eq (g2 := F0 m 14 ls [.int (M_Mk_stripsToCome mk st)]) rfl ?_
    refine lv_if_eq (tgt := 28) hx hb d_PF_put_14 (by decide) (fun c_2 => ?_) (fun c_2 => ?_)
    · refine lv_iconst (v := 0) hx hb d_PF_put_28 (by decide) ?_
      have ef : M_PF_put mk ro st p0 p1 = (0, mk, ro) := by unfold M_PF_put; (try dsimp only); rw [if_neg c_1]; rw [if_pos c_2]
      exact ct_iret hx hb hr (rfl) hlocks d_PF_put_29 ⟨Nat.zero_le _, Nat.zero_le _⟩ hQ hAe hS (h3, (0, mk, ro)) rfl ⟨ef.symm, hro, (by show ro.1 ≤ ro.1; omega), (Or.inl rfl)⟩ (hP.sub [0, 1, 2, 3, 4, 5, 6, 7, 8, 9, 10, 11, 12, 13, 14, 15] rfl) (hD.sub [0, 1, 2, 3, 4, 5, 6, 7, 8, 9, 10, 11, 12, 13, 14, 15] rfl rfl)
    · refine lv_aload_n hx hb d_PF_put_17 rfl (lv_at hl 0 rfl) ?_
      refine va_get (D := D) (ci := 6) (C := R_PF) (T := F_PF) (N := 3) hx hb (kl_PF hK.2) (fun _ h => h) hown hK.1 hP 0 rfl rfl 1 (by decide) (hw kw_277) (fun _ h9 => h9) rfl d_PF_put_18 ?_
      refine lv_iload_n hx hb d_PF_put_21 rfl (lv_at hl 2 rfl) ?_
      refine ct_finP (ct_runVN (host := "PictureFile") (n := 1) (C := R_Mk) (b := h1) (As := [.int p1]) (rest := []) hH (c_Mk_hasRoomFor h1 h2 h3 h4 h5 mk ro st hro hst p1 _) ⟨cal_Mk_hasRoomFor, ⟨Nat.le_of_ble_eq_true rfl, Nat.le_of_ble_eq_true rfl⟩, (Nat.le_of_ble_eq_true rfl), (Nat.le_of_ble_eq_true rfl)⟩ kw_292 kw_293 kw_61 kw_294 kw_295 (va_recv hK.1 hP (ci := 2) (q0 := 1) rfl rfl) (hP.sub (ws' := [(h1, .inr (2, [.ref h2, .ref h4, .int (mk 0), .int (mk 1), .int (mk 2), .int (mk 3), .int (mk 4), .int (mk 5), .int (mk 6), .int (mk 7), .int (mk 8), .int (mk 9), .int (mk 10), .int (mk 11)])), (h2, .inr (0, [.ref h3, .int ro.2.2])), (h3, .inl (cB, ro.1, .inl ro.2.1)), (h4, .inr (1, [.int 512, .ref h5, .int st.2.2])), (h5, .inl (cI, st.1, .inl st.2.1))]) [1, 2, 3, 4, 5] rfl) (hD.sub (ws' := [(h1, .inr (2, [.ref h2, .ref h4, .int (mk 0), .int (mk 1), .int (mk 2), .int (mk 3), .int (mk 4), .int (mk 5), .int (mk 6), .int (mk 7), .int (mk 8), .int (mk 9), .int (mk 10), .int (mk 11)])), (h2, .inr (0, [.ref h3, .int ro.2.2])), (h3, .inl (cB, ro.1, .inl ro.2.1)), (h4, .inr (1, [.int 512, .ref h5, .int st.2.2])), (h5, .inl (cI, st.1, .inl st.2.1))]) [1, 2, 3, 4, 5] rfl rfl) rfl hl.1 (Nat.le_of_ble_eq_true rfl) d_PF_put_22) hP hS (fun H hP hS => ?_)
      refine W.eq (g2 := F0 m 25 ls [.int (M_Mk_hasRoomFor mk ro p1)]) rfl ?_
      refine lv_if_ne (tgt := 30) hx hb d_PF_put_25 (by decide) (fun c_3 => ?_) (fun c_3 => ?_)
      · refine lv_aload_n hx hb d_PF_put_30 rfl (lv_at hl 0 rfl) ?_
        refine va_get (D := D) (ci := 6) (C := R_PF) (T := F_PF) (N := 3) hx hb (kl_PF hK.2) (fun _ h => h) hown hK.1 hP 0 rfl rfl 1 (by decide) (hw kw_277) (fun _ h9 => h9) rfl d_PF_put_31 ?_
        refine lv_lload_n hx hb d_PF_put_34 rfl (lv_at hl 1 rfl) ?_
        refine lv_iload_n hx hb d_PF_put_35 rfl (lv_at hl 2 rfl) ?_
        refine ct_fin (wr := [(h0, .inr (6, [.ref h2, .ref h1, .ref h6])), (h6, .inr (5, [.ref h2, .ref h7, .ref h11, .ref h13, .ref h15, .int (rd 0), .int (rd 1), .int (rd 2), .int (rd 3), .int (rd 4), .int (rd 5), .int (rd 6)])), (h7, .inr (4, [.ref h2, .ref h8, .ref h9, .ref h10])), (h8, .inl (cI, 41, .inl ty)), (h9, .inl (cI, 41, .inl ct)), (h10, .inl (cI, 41, .inl pl)), (h11, .inr (3, [.ref h12])), (h12, .inl (cJ, 520, .inr (.inl nu))), (h13, .inr (1, [.int 8192, .ref h14, .int rs.2.2])), (h14, .inl (cI, rs.1, .inl rs.2.1)), (h15, .inl (cI, 40, .inl fs))]) (ct_runVN (host := "PictureFile") (n := 2) (C := R_Mk) (b := h1) (As := [.long p0, .int p1]) (rest := []) hH (c_Mk_addToStrip h1 h2 h3 h4 h5 mk ro st hro hst p0 p1 _) ⟨cal_Mk_addToStrip, ⟨Nat.le_of_ble_eq_true rfl, Nat.le_of_ble_eq_true rfl⟩, (Nat.le_of_ble_eq_true rfl), (Nat.le_of_ble_eq_true rfl)⟩ kw_296 kw_297 kw_61 kw_298 kw_299 (va_recv hK.1 hP (ci := 2) (q0 := 1) rfl rfl) (hP.sub (ws' := [(h1, .inr (2, [.ref h2, .ref h4, .int (mk 0), .int (mk 1), .int (mk 2), .int (mk 3), .int (mk 4), .int (mk 5), .int (mk 6), .int (mk 7), .int (mk 8), .int (mk 9), .int (mk 10), .int (mk 11)])), (h2, .inr (0, [.ref h3, .int ro.2.2])), (h3, .inl (cB, ro.1, .inl ro.2.1)), (h4, .inr (1, [.int 512, .ref h5, .int st.2.2])), (h5, .inl (cI, st.1, .inl st.2.1))]) [1, 2, 3, 4, 5] rfl) (hD.sub (ws' := [(h1, .inr (2, [.ref h2, .ref h4, .int (mk 0), .int (mk 1), .int (mk 2), .int (mk 3), .int (mk 4), .int (mk 5), .int (mk 6), .int (mk 7), .int (mk 8), .int (mk 9), .int (mk 10), .int (mk 11)])), (h2, .inr (0, [.ref h3, .int ro.2.2])), (h3, .inl (cB, ro.1, .inl ro.2.1)), (h4, .inr (1, [.int 512, .ref h5, .int st.2.2])), (h5, .inl (cI, st.1, .inl st.2.1))]) [1, 2, 3, 4, 5] rfl rfl) rfl hl.1 (Nat.le_of_ble_eq_true rfl) d_PF_put_36) hP hD hS hA [1, 2, 3, 4, 5] [0, 6, 7, 8, 9, 10, 11, 12, 13, 14, 15] rfl rfl rfl (by decide) (fun u H locs hp hP hD hS => ?_)
        obtain ⟨q1ro, x1⟩ := u
        obtain ⟨e1, ok1ro, mo1ro⟩ := hp
        try dsimp only at e1 ok1ro mo1ro
        have bo1ro := RowOK.le ok1ro
        have hP : va_P D classes [(h0, .inr (6, [.ref h2, .ref h1, .ref h6])), (h6, .inr (5, [.ref h2, .ref h7, .ref h11, .ref h13, .ref h15, .int (rd 0), .int (rd 1), .int (rd 2), .int (rd 3), .int (rd 4), .int (rd 5), .int (rd 6)])), (h7, .inr (4, [.ref h2, .ref h8, .ref h9, .ref h10])), (h8, .inl (cI, 41, .inl ty)), (h9, .inl (cI, 41, .inl ct)), (h10, .inl (cI, 41, .inl pl)), (h11, .inr (3, [.ref h12])), (h12, .inl (cJ, 520, .inr (.inl nu))), (h13, .inr (1, [.int 8192, .ref h14, .int rs.2.2])), (h14, .inl (cI, rs.1, .inl rs.2.1)), (h15, .inl (cI, 40, .inl fs)), (h1, .inr (2, [.ref h2, .ref h4, .int (x1.1 0), .int (x1.1 1), .int (x1.1 2), .int (x1.1 3), .int (x1.1 4), .int (x1.1 5), .int (x1.1 6), .int (x1.1 7), .int (x1.1 8), .int (x1.1 9), .int (x1.1 10), .int (x1.1 11)])), (h2, .inr (0, [.ref q1ro, .int x1.2.2.2])), (q1ro, .inl (cB, x1.2.1, .inl x1.2.2.1)), (h4, .inr (1, [.int 512, .ref h5, .int st.2.2])), (h5, .inl (cI, st.1, .inl st.2.1))] H := hP
        have hD : va_D A [(h0, .inr (6, [.ref h2, .ref h1, .ref h6])), (h6, .inr (5, [.ref h2, .ref h7, .ref h11, .ref h13, .ref h15, .int (rd 0), .int (rd 1), .int (rd 2), .int (rd 3), .int (rd 4), .int (rd 5), .int (rd 6)])), (h7, .inr (4, [.ref h2, .ref h8, .ref h9, .ref h10])), (h8, .inl (cI, 41, .inl ty)), (h9, .inl (cI, 41, .inl ct)), (h10, .inl (cI, 41, .inl pl)), (h11, .inr (3, [.ref h12])), (h12, .inl (cJ, 520, .inr (.inl nu))), (h13, .inr (1, [.int 8192, .ref h14, .int rs.2.2])), (h14, .inl (cI, rs.1, .inl rs.2.1)), (h15, .inl (cI, 40, .inl fs)), (h1, .inr (2, [.ref h2, .ref h4, .int (x1.1 0), .int (x1.1 1), .int (x1.1 2), .int (x1.1 3), .int (x1.1 4), .int (x1.1 5), .int (x1.1 6), .int (x1.1 7), .int (x1.1 8), .int (x1.1 9), .int (x1.1 10), .int (x1.1 11)])), (h2, .inr (0, [.ref q1ro, .int x1.2.2.2])), (q1ro, .inl (cB, x1.2.1, .inl x1.2.2.1)), (h4, .inr (1, [.int 512, .ref h5, .int st.2.2])), (h5, .inl (cI, st.1, .inl st.2.1))] := hD
        refine W.widen (k := gC 1024 ro.1 x1.2.1) (n := gS ro.1 x1.2.1) (by rw [← e1]; simp only [gC]; omega) (by rw [← e1]; simp only [gS]; omega) ?_
        refine W.eq (g2 := F0 m 39 ls []) rfl ?_
        refine lv_iconst (v := 1) hx hb d_PF_put_39 (by decide) ?_
        have ef : M_PF_put mk ro st p0 p1 = (1, x1.1, x1.2) := by unfold M_PF_put; (try dsimp only); rw [if_neg c_1]; rw [if_neg c_2]; rw [if_neg c_3]; (try rw [← e1])
        exact ct_iret hx hb hr (rfl) hlocks d_PF_put_40 ⟨by rw [ef]; simp only [gC]; omega, by rw [ef]; simp only [gS]; omega⟩ hQ hAe hS (q1ro, (1, x1.1, x1.2)) rfl ⟨ef.symm, ok1ro, (by show ro.1 ≤ x1.2.1; omega), (Or.inr rfl)⟩ (hP.sub [0, 11, 12, 13, 14, 15, 1, 2, 3, 4, 5, 6, 7, 8, 9, 10] rfl) (hD.sub [0, 11, 12, 13, 14, 15, 1, 2, 3, 4, 5, 6, 7, 8, 9, 10] rfl rfl)
      · refine lv_iconst (v := 0) hx hb d_PF_put_28 (by decide) ?_
        have ef : M_PF_put mk ro st p0 p1 = (0, mk, ro) := by unfold M_PF_put; (try dsimp only); rw [if_neg c_1]; rw [if_neg c_2]; rw [if_pos c_3]
        exact ct_iret hx hb hr (rfl) hlocks d_PF_put_29 ⟨Nat.zero_le _, Nat.zero_le _⟩ hQ hAe hS (h3, (0, mk, ro)) rfl ⟨ef.symm, hro, (by show ro.1 ≤ ro.1; omega), (Or.inl rfl)⟩ (hP.sub [0, 1, 2, 3, 4, 5, 6, 7, 8, 9, 10, 11, 12, 13, 14, 15] rfl) (hD.sub [0, 1, 2, 3, 4, 5, 6, 7, 8, 9, 10, 11, 12, 13, 14, 15] rfl rfl)
set_option maxHeartbeats 4000000 in
set_option maxRecDepth 100000 in
theorem c_PF_fault {l : Launch} {D : va_G} {cB cI cJ : ClassId} (h0 h1 h2 h3 h4 h5 h6 h7 h8 h9 h10 h11 h12 h13 h14 h15 : Nat) (mk : Nat → Int32) (ro : RowS) (st : RowS) (rd : Nat → Int32) (ty : Nat → Int32) (ct : Nat → Int32) (pl : Nat → Int32) (nu : Nat → Int64) (rs : RowS) (fs : Nat → Int32) (hro : RowOK ro) (hst : StOK 512 st) (hrs : StOK 8192 rs) (p0 : Int32) : CtP classes BW l D (TY cB cI cJ) y_PF_fault b_PF_fault 2 (some .int) ({ frames := 1, cells := 0, slots := 0, locals := 21 } : Room) [.ref h0, .int p0] [(h0, .inr (6, [.ref h2, .ref h1, .ref h6])), (h1, .inr (2, [.ref h2, .ref h4, .int (mk 0), .int (mk 1), .int (mk 2), .int (mk 3), .int (mk 4), .int (mk 5), .int (mk 6), .int (mk 7), .int (mk 8), .int (mk 9), .int (mk 10), .int (mk 11)])), (h2, .inr (0, [.ref h3, .int ro.2.2])), (h3, .inl (cB, ro.1, .inl ro.2.1)), (h4, .inr (1, [.int 512, .ref h5, .int st.2.2])), (h5, .inl (cI, st.1, .inl st.2.1)), (h6, .inr (5, [.ref h2, .ref h7, .ref h11, .ref h13, .ref h15, .int (rd 0), .int (rd 1), .int (rd 2), .int (rd 3), .int (rd 4), .int (rd 5), .int (rd 6)])), (h7, .inr (4, [.ref h2, .ref h8, .ref h9, .ref h10])), (h8, .inl (cI, 41, .inl ty)), (h9, .inl (cI, 41, .inl ct)), (h10, .inl (cI, 41, .inl pl)), (h11, .inr (3, [.ref h12])), (h12, .inl (cJ, 520, .inr (.inl nu))), (h13, .inr (1, [.int 8192, .ref h14, .int rs.2.2])), (h14, .inl (cI, rs.1, .inl rs.2.1)), (h15, .inl (cI, 40, .inl fs))] (some (.int (M_PF_fault rd p0))) := by
  refine CtP.intro (by decide +kernel) (Nat.le_of_ble_eq_true rfl) ?_
  intro p e s m below meth c hx hb hr hml hlocks hnm hown hK hS hP hD ls hl Q hQ
  have hown : s.vm.findClass "PictureFile" = some m.cls := hown
  have hH : Hold classes BW D (TY cB cI cJ) p s m c b_PF_fault 2 "PictureFile" := ⟨bw_ok, hx, hb, hml, hown, hK⟩
  have hw : ∀ {w : Cond}, w ∈ BW → w.before ([.ref h0, .int p0] : List Value).toArray s = true := fun h => Wd.at bw_ok hK.2 h
  have hl : lv_has ls 2 [(0, .ref h0), (1, .int p0)] := hl
  have bo0ro := RowOK.le hro
  have bo0st := StOK.le hst
  have bo0rs := StOK.le hrs
  refine lv_aload_n hx hb d_PF_fault_0 rfl (lv_at hl 0 rfl) ?_
  refine va_get (D := D) (ci := 6) (C := R_PF) (T := F_PF) (N := 3) hx hb (kl_PF hK.2) (fun _ h => h) hown hK.1 hP 0 rfl rfl 2 (by decide) (hw kw_300) (fun _ h9 => h9) rfl d_PF_fault_1 ?_
  refine lv_iload_n hx hb d_PF_fault_4 rfl (lv_at hl 1 rfl) ?_
  refine ct_finP (ct_runVN (host := "PictureFile") (n := 1) (C := R_Rd) (b := h6) (As := [.int p0]) (rest := []) hH (c_Rd_faultNumber h6 h2 h3 h7 h8 h9 h10 h11 h12 h13 h14 h15 rd ro ty ct pl nu rs fs hro hrs p0 _) ⟨cal_Rd_faultNumber, ⟨Nat.le_of_ble_eq_true rfl, Nat.le_of_ble_eq_true rfl⟩, (Nat.le_of_ble_eq_true rfl), (Nat.le_of_ble_eq_true rfl)⟩ kw_301 kw_302 kw_167 kw_303 kw_304 (va_recv hK.1 hP (ci := 5) (q0 := 6) rfl rfl) (hP.sub (ws' := [(h6, .inr (5, [.ref h2, .ref h7, .ref h11, .ref h13, .ref h15, .int (rd 0), .int (rd 1), .int (rd 2), .int (rd 3), .int (rd 4), .int (rd 5), .int (rd 6)])), (h2, .inr (0, [.ref h3, .int ro.2.2])), (h3, .inl (cB, ro.1, .inl ro.2.1)), (h7, .inr (4, [.ref h2, .ref h8, .ref h9, .ref h10])), (h8, .inl (cI, 41, .inl ty)), (h9, .inl (cI, 41, .inl ct)), (h10, .inl (cI, 41, .inl pl)), (h11, .inr (3, [.ref h12])), (h12, .inl (cJ, 520, .inr (.inl nu))), (h13, .inr (1, [.int 8192, .ref h14, .int rs.2.2])), (h14, .inl (cI, rs.1, .inl rs.2.1)), (h15, .inl (cI, 40, .inl fs))]) [6, 2, 3, 7, 8, 9, 10, 11, 12, 13, 14, 15] rfl) (hD.sub (ws' := [(h6, .inr (5, [.ref h2, .ref h7, .ref h11, .ref h13, .ref h15, .int (rd 0), .int (rd 1), .int (rd 2), .int (rd 3), .int (rd 4), .int (rd 5), .int (rd 6)])), (h2, .inr (0, [.ref h3, .int ro.2.2])), (h3, .inl (cB, ro.1, .inl ro.2.1)), (h7, .inr (4, [.ref h2, .ref h8, .ref h9, .ref h10])), (h8, .inl (cI, 41, .inl ty)), (h9, .inl (cI, 41, .inl ct)), (h10, .inl (cI, 41, .inl pl)), (h11, .inr (3, [.ref h12])), (h12, .inl (cJ, 520, .inr (.inl nu))), (h13, .inr (1, [.int 8192, .ref h14, .int rs.2.2])), (h14, .inl (cI, rs.1, .inl rs.2.1)), (h15, .inl (cI, 40, .inl fs))]) [6, 2, 3, 7, 8, 9, 10, 11, 12, 13, 14, 15] rfl rfl) rfl hl.1 (Nat.le_of_ble_eq_true rfl) d_PF_fault_5) hP hS (fun H hP hS => ?_)
  refine W.eq (g2 := F0 m 8 ls [.int (M_Rd_faultNumber rd p0)]) rfl ?_
  have ef : M_PF_fault rd p0 = (M_Rd_faultNumber rd p0) := by rfl
  exact ct_piret hx hb hr rfl hlocks d_PF_fault_8 hQ hS (by rw [ef])
set_option maxHeartbeats 4000000 in
set_option maxRecDepth 100000 in
theorem c_PF_look {l : Launch} {D : va_G} {cB cI cJ : ClassId} (h0 h1 h2 h3 h4 h5 h6 h7 h8 h9 h10 h11 h12 h13 h14 h15 : Nat) (mk : Nat → Int32) (ro : RowS) (st : RowS) (rd : Nat → Int32) (ty : Nat → Int32) (ct : Nat → Int32) (pl : Nat → Int32) (nu : Nat → Int64) (rs : RowS) (fs : Nat → Int32) (hro : RowOK ro) (hst : StOK 512 st) (hrs : StOK 8192 rs) (p0 : Int32) : CtP classes BW l D (TY cB cI cJ) y_PF_look b_PF_look 2 (some .int) ({ frames := 1, cells := 0, slots := 0, locals := 20 } : Room) [.ref h0, .int p0] [(h0, .inr (6, [.ref h2, .ref h1, .ref h6])), (h1, .inr (2, [.ref h2, .ref h4, .int (mk 0), .int (mk 1), .int (mk 2), .int (mk 3), .int (mk 4), .int (mk 5), .int (mk 6), .int (mk 7), .int (mk 8), .int (mk 9), .int (mk 10), .int (mk 11)])), (h2, .inr (0, [.ref h3, .int ro.2.2])), (h3, .inl (cB, ro.1, .inl ro.2.1)), (h4, .inr (1, [.int 512, .ref h5, .int st.2.2])), (h5, .inl (cI, st.1, .inl st.2.1)), (h6, .inr (5, [.ref h2, .ref h7, .ref h11, .ref h13, .ref h15, .int (rd 0), .int (rd 1), .int (rd 2), .int (rd 3), .int (rd 4), .int (rd 5), .int (rd 6)])), (h7, .inr (4, [.ref h2, .ref h8, .ref h9, .ref h10])), (h8, .inl (cI, 41, .inl ty)), (h9, .inl (cI, 41, .inl ct)), (h10, .inl (cI, 41, .inl pl)), (h11, .inr (3, [.ref h12])), (h12, .inl (cJ, 520, .inr (.inl nu))), (h13, .inr (1, [.int 8192, .ref h14, .int rs.2.2])), (h14, .inl (cI, rs.1, .inl rs.2.1)), (h15, .inl (cI, 40, .inl fs))] (some (.int (M_PF_look mk ro st rd p0))) := by
  refine CtP.intro (by decide +kernel) (Nat.le_of_ble_eq_true rfl) ?_
  intro p e s m below meth c hx hb hr hml hlocks hnm hown hK hS hP hD ls hl Q hQ
  have hown : s.vm.findClass "PictureFile" = some m.cls := hown
  have hH : Hold classes BW D (TY cB cI cJ) p s m c b_PF_look 2 "PictureFile" := ⟨bw_ok, hx, hb, hml, hown, hK⟩
  have hw : ∀ {w : Cond}, w ∈ BW → w.before ([.ref h0, .int p0] : List Value).toArray s = true := fun h => Wd.at bw_ok hK.2 h
  have hl : lv_has ls 2 [(0, .ref h0), (1, .int p0)] := hl
  have bo0ro := RowOK.le hro
  have bo0st := StOK.le hst
  have bo0rs := StOK.le hrs
  refine lv_iload_n hx hb d_PF_look_0 rfl (lv_at hl 1 rfl) ?_
  by_cases c_1 : p0 = 0
  · refine lv_tableIn (tgt := 48) (off := 47) hx hb d_PF_look_1 (by rw [c_1]; decide) (by rw [c_1]; decide) (by rw [c_1]; rfl) (by decide) ?_
    refine lv_aload_n hx hb d_PF_look_48 rfl (lv_at hl 0 rfl) ?_
    refine va_get (D := D) (ci := 6) (C := R_PF) (T := F_PF) (N := 3) hx hb (kl_PF hK.2) (fun _ h => h) hown hK.1 hP 0 rfl rfl 0 (by decide) (hw kw_282) (fun _ h9 => h9) rfl d_PF_look_49 ?_
    refine va_getN (host := "PictureFile") (D := D) (ci := 0) (C := R_Row) (T := F_Row) (N := 2) hx hb (kl_Row hK.2) (fun _ h => h) hown hK.1 hP 2 rfl rfl 1 (by decide) (hw kw_283) (fun _ h9 => h9) rfl d_PF_look_52 ?_
    have ef : M_PF_look mk ro st rd p0 = ro.2.2 := by unfold M_PF_look; (try dsimp only); rw [if_pos c_1]
    exact ct_piret hx hb hr rfl hlocks d_PF_look_55 hQ hS (by rw [ef])
  by_cases c_2 : p0 = 1
  · refine lv_tableIn (tgt := 56) (off := 55) hx hb d_PF_look_1 (by rw [c_2]; decide) (by rw [c_2]; decide) (by rw [c_2]; rfl) (by decide) ?_
    refine lv_aload_n hx hb d_PF_look_56 rfl (lv_at hl 0 rfl) ?_
    refine va_get (D := D) (ci := 6) (C := R_PF) (T := F_PF) (N := 3) hx hb (kl_PF hK.2) (fun _ h => h) hown hK.1 hP 0 rfl rfl 1 (by decide) (hw kw_277) (fun _ h9 => h9) rfl d_PF_look_57 ?_
    refine va_getN (host := "PictureFile") (D := D) (ci := 2) (C := R_Mk) (T := F_Mk) (N := 14) hx hb (kl_Mk hK.2) (fun _ h => h) hown hK.1 hP 1 rfl rfl 2 (by decide) (hw kw_278) (fun _ h9 => h9) rfl d_PF_look_60 ?_
    refine lv_if_eq (tgt := 70) hx hb d_PF_look_63 (by decide) (fun c_3 => ?_) (fun c_3 => ?_)
    · refine lv_iconst (v := 0) hx hb d_PF_look_70 (by decide) ?_
      have ef : M_PF_look mk ro st rd p0 = 0 := by unfold M_PF_look; (try dsimp only); rw [if_neg c_1]; rw [if_pos c_2]; rw [if_pos c_3]
      exact ct_piret hx hb hr rfl hlocks d_PF_look_71 hQ hS (by rw [ef])
    · refine lv_iconst (v := 1) hx hb d_PF_look_66 (by decide) ?_
      refine lv_goto (tgt := 71) hx hb d_PF_look_67 (by decide) ?_
      have ef : M_PF_look mk ro st rd p0 = 1 := by unfold M_PF_look; (try dsimp only); rw [if_neg c_1]; rw [if_pos c_2]; rw [if_neg c_3]
      exact ct_piret hx hb hr rfl hlocks d_PF_look_71 hQ hS (by rw [ef])
  by_cases c_4 : p0 = 2
  · refine lv_tableIn (tgt := 72) (off := 71) hx hb d_PF_look_1 (by rw [c_4]; decide) (by rw [c_4]; decide) (by rw [c_4]; rfl) (by decide) ?_
    refine lv_aload_n hx hb d_PF_look_72 rfl (lv_at hl 0 rfl) ?_
    refine va_get (D := D) (ci := 6) (C := R_PF) (T := F_PF) (N := 3) hx hb (kl_PF hK.2) (fun _ h => h) hown hK.1 hP 0 rfl rfl 1 (by decide) (hw kw_277) (fun _ h9 => h9) rfl d_PF_look_73 ?_
    refine va_getN (host := "PictureFile") (D := D) (ci := 2) (C := R_Mk) (T := F_Mk) (N := 14) hx hb (kl_Mk hK.2) (fun _ h => h) hown hK.1 hP 1 rfl rfl 3 (by decide) (hw kw_305) (fun _ h9 => h9) rfl d_PF_look_76 ?_
    refine lv_if_eq (tgt := 86) hx hb d_PF_look_79 (by decide) (fun c_5 => ?_) (fun c_5 => ?_)
    · refine lv_iconst (v := 0) hx hb d_PF_look_86 (by decide) ?_
      have ef : M_PF_look mk ro st rd p0 = 0 := by unfold M_PF_look; (try dsimp only); rw [if_neg c_1]; rw [if_neg c_2]; rw [if_pos c_4]; rw [if_pos c_5]
      exact ct_piret hx hb hr rfl hlocks d_PF_look_87 hQ hS (by rw [ef])
    · refine lv_iconst (v := 1) hx hb d_PF_look_82 (by decide) ?_
      refine lv_goto (tgt := 87) hx hb d_PF_look_83 (by decide) ?_
      have ef : M_PF_look mk ro st rd p0 = 1 := by unfold M_PF_look; (try dsimp only); rw [if_neg c_1]; rw [if_neg c_2]; rw [if_pos c_4]; rw [if_neg c_5]
      exact ct_piret hx hb hr rfl hlocks d_PF_look_87 hQ hS (by rw [ef])
  by_cases c_6 : p0 = 3
  · refine lv_tableIn (tgt := 88) (off := 87) hx hb d_PF_look_1 (by rw [c_6]; decide) (by rw [c_6]; decide) (by rw [c_6]; rfl) (by decide) ?_
    refine lv_aload_n hx hb d_PF_look_88 rfl (lv_at hl 0 rfl) ?_
    refine va_get (D := D) (ci := 6) (C := R_PF) (T := F_PF) (N := 3) hx hb (kl_PF hK.2) (fun _ h => h) hown hK.1 hP 0 rfl rfl 1 (by decide) (hw kw_277) (fun _ h9 => h9) rfl d_PF_look_89 ?_
    refine va_getN (host := "PictureFile") (D := D) (ci := 2) (C := R_Mk) (T := F_Mk) (N := 14) hx hb (kl_Mk hK.2) (fun _ h => h) hown hK.1 hP 1 rfl rfl 5 (by decide) (hw kw_306) (fun _ h9 => h9) rfl d_PF_look_92 ?_
    have ef : M_PF_look mk ro st rd p0 = (mk 3) := by unfold M_PF_look; (try dsimp only); rw [if_neg c_1]; rw [if_neg c_2]; rw [if_neg c_4]; rw [if_pos c_6]
    exact ct_piret hx hb hr rfl hlocks d_PF_look_95 hQ hS (by rw [ef])
  by_cases c_7 : p0 = 4
  · refine lv_tableIn (tgt := 96) (off := 95) hx hb d_PF_look_1 (by rw [c_7]; decide) (by rw [c_7]; decide) (by rw [c_7]; rfl) (by decide) ?_
    refine lv_aload_n hx hb d_PF_look_96 rfl (lv_at hl 0 rfl) ?_
    refine va_get (D := D) (ci := 6) (C := R_PF) (T := F_PF) (N := 3) hx hb (kl_PF hK.2) (fun _ h => h) hown hK.1 hP 0 rfl rfl 1 (by decide) (hw kw_277) (fun _ h9 => h9) rfl d_PF_look_97 ?_
    refine ct_finP (ct_runVN (host := "PictureFile") (n := 0) (C := R_Mk) (b := h1) (As := []) (rest := []) hH (c_Mk_stripsToCome h1 h2 h3 h4 h5 mk ro st hro hst _) ⟨cal_Mk_stripsToCome, ⟨Nat.le_of_ble_eq_true rfl, Nat.le_of_ble_eq_true rfl⟩, (Nat.le_of_ble_eq_true rfl), (Nat.le_of_ble_eq_true rfl)⟩ kw_288 kw_289 kw_61 kw_290 kw_291 (va_recv hK.1 hP (ci := 2) (q0 := 1) rfl rfl) (hP.sub (ws' := [(h1, .inr (2, [.ref h2, .ref h4, .int (mk 0), .int (mk 1), .int (mk 2), .int (mk 3), .int (mk 4), .int (mk 5), .int (mk 6), .int (mk 7), .int (mk 8), .int (mk 9), .int (mk 10), .int (mk 11)])), (h2, .inr (0, [.ref h3, .int ro.2.2])), (h3, .inl (cB, ro.1, .inl ro.2.1)), (h4, .inr (1, [.int 512, .ref h5, .int st.2.2])), (h5, .inl (cI, st.1, .inl st.2.1))]) [1, 2, 3, 4, 5] rfl) (hD.sub (ws' := [(h1, .inr (2, [.ref h2, .ref h4, .int (mk 0), .int (mk 1), .int (mk 2), .int (mk 3), .int (mk 4), .int (mk 5), .int (mk 6), .int (mk 7), .int (mk 8), .int (mk 9), .int (mk 10), .int (mk 11)])), (h2, .inr (0, [.ref h3, .int ro.2.2])), (h3, .inl (cB, ro.1, .inl ro.2.1)), (h4, .inr (1, [.int 512, .ref h5, .int st.2.2])), (h5, .inl (cI, st.1, .inl st.2.1))]) [1, 2, 3, 4, 5] rfl rfl) rfl hl.1 (Nat.le_of_ble_eq_true rfl) d_PF_look_100) hP hS (fun H hP hS => ?_)
    refine W.eq (g2 := F0 m 103 ls [.int (M_Mk_stripsToCome mk st)]) rfl ?_
    have ef : M_PF_look mk ro st rd p0 = (M_Mk_stripsToCome mk st) := by unfold M_PF_look; (try dsimp only); rw [if_neg c_1]; rw [if_neg c_2]; rw [if_neg c_4]; rw [if_neg c_6]; rw [if_pos c_7]
    exact ct_piret hx hb hr rfl hlocks d_PF_look_103 hQ hS (by rw [ef])
  by_cases c_8 : p0 = 5
  · refine lv_tableIn (tgt := 104) (off := 103) hx hb d_PF_look_1 (by rw [c_8]; decide) (by rw [c_8]; decide) (by rw [c_8]; rfl) (by decide) ?_
    refine lv_aload_n hx hb d_PF_look_104 rfl (lv_at hl 0 rfl) ?_
    refine va_get (D := D) (ci := 6) (C := R_PF) (T := F_PF) (N := 3) hx hb (kl_PF hK.2) (fun _ h => h) hown hK.1 hP 0 rfl rfl 1 (by decide) (hw kw_277) (fun _ h9 => h9) rfl d_PF_look_105 ?_
    refine va_getN (host := "PictureFile") (D := D) (ci := 2) (C := R_Mk) (T := F_Mk) (N := 14) hx hb (kl_Mk hK.2) (fun _ h => h) hown hK.1 hP 1 rfl rfl 13 (by decide) (hw kw_307) (fun _ h9 => h9) rfl d_PF_look_108 ?_
    have ef : M_PF_look mk ro st rd p0 = (mk 11) := by unfold M_PF_look; (try dsimp only); rw [if_neg c_1]; rw [if_neg c_2]; rw [if_neg c_4]; rw [if_neg c_6]; rw [if_neg c_7]; rw [if_pos c_8]
    exact ct_piret hx hb hr rfl hlocks d_PF_look_111 hQ hS (by rw [ef])
  by_cases c_9 : p0 = 6
  · refine lv_tableIn (tgt := 112) (off := 111) hx hb d_PF_look_1 (by rw [c_9]; decide) (by rw [c_9]; decide) (by rw [c_9]; rfl) (by decide) ?_
    refine lv_aload_n hx hb d_PF_look_112 rfl (lv_at hl 0 rfl) ?_
    refine va_get (D := D) (ci := 6) (C := R_PF) (T := F_PF) (N := 3) hx hb (kl_PF hK.2) (fun _ h => h) hown hK.1 hP 0 rfl rfl 2 (by decide) (hw kw_300) (fun _ h9 => h9) rfl d_PF_look_113 ?_
    refine va_getN (host := "PictureFile") (D := D) (ci := 5) (C := R_Rd) (T := F_Rd) (N := 12) hx hb (kl_Rd hK.2) (fun _ h => h) hown hK.1 hP 6 rfl rfl 5 (by decide) (hw kw_308) (fun _ h9 => h9) rfl d_PF_look_116 ?_
    have ef : M_PF_look mk ro st rd p0 = (rd 0) := by unfold M_PF_look; (try dsimp only); rw [if_neg c_1]; rw [if_neg c_2]; rw [if_neg c_4]; rw [if_neg c_6]; rw [if_neg c_7]; rw [if_neg c_8]; rw [if_pos c_9]
    exact ct_piret hx hb hr rfl hlocks d_PF_look_119 hQ hS (by rw [ef])
  by_cases c_10 : p0 = 7
  · refine lv_tableIn (tgt := 120) (off := 119) hx hb d_PF_look_1 (by rw [c_10]; decide) (by rw [c_10]; decide) (by rw [c_10]; rfl) (by decide) ?_
    refine lv_aload_n hx hb d_PF_look_120 rfl (lv_at hl 0 rfl) ?_
    refine va_get (D := D) (ci := 6) (C := R_PF) (T := F_PF) (N := 3) hx hb (kl_PF hK.2) (fun _ h => h) hown hK.1 hP 0 rfl rfl 2 (by decide) (hw kw_300) (fun _ h9 => h9) rfl d_PF_look_121 ?_
    refine va_getN (host := "PictureFile") (D := D) (ci := 5) (C := R_Rd) (T := F_Rd) (N := 12) hx hb (kl_Rd hK.2) (fun _ h => h) hown hK.1 hP 6 rfl rfl 6 (by decide) (hw kw_309) (fun _ h9 => h9) rfl d_PF_look_124 ?_
    have ef : M_PF_look mk ro st rd p0 = (rd 1) := by unfold M_PF_look; (try dsimp only); rw [if_neg c_1]; rw [if_neg c_2]; rw [if_neg c_4]; rw [if_neg c_6]; rw [if_neg c_7]; rw [if_neg c_8]; rw [if_neg c_9]; rw [if_pos c_10]
    exact ct_piret hx hb hr rfl hlocks d_PF_look_127 hQ hS (by rw [ef])
  have nc_1 : ¬ p0.toInt = 0 := fun h => c_1 (Int32.toInt_inj.mp h)
  have nc_2 : ¬ p0.toInt = 1 := fun h => c_2 (Int32.toInt_inj.mp h)
  have nc_4 : ¬ p0.toInt = 2 := fun h => c_4 (Int32.toInt_inj.mp h)
  have nc_6 : ¬ p0.toInt = 3 := fun h => c_6 (Int32.toInt_inj.mp h)
  have nc_7 : ¬ p0.toInt = 4 := fun h => c_7 (Int32.toInt_inj.mp h)
  have nc_8 : ¬ p0.toInt = 5 := fun h => c_8 (Int32.toInt_inj.mp h)
  have nc_9 : ¬ p0.toInt = 6 := fun h => c_9 (Int32.toInt_inj.mp h)
  have nc_10 : ¬ p0.toInt = 7 := fun h => c_10 (Int32.toInt_inj.mp h)
  refine lv_tableD (tgt := 128) hx hb d_PF_look_1 (by rcases (show p0.toInt < 0 ∨ 7 < p0.toInt by omega) with h | h; exact Or.inl h; exact Or.inr (Or.inl h)) (by decide) ?_
  refine lv_iconst (v := (-1)) hx hb d_PF_look_128 (by decide) ?_
  have ef : M_PF_look mk ro st rd p0 = (-1) := by unfold M_PF_look; (try dsimp only); rw [if_neg c_1]; rw [if_neg c_2]; rw [if_neg c_4]; rw [if_neg c_6]; rw [if_neg c_7]; rw [if_neg c_8]; rw [if_neg c_9]; rw [if_neg c_10]
  exact ct_piret hx hb hr rfl hlocks d_PF_look_129 hQ hS (by rw [ef])
set_option maxHeartbeats 4000000 in
set_option maxRecDepth 100000 in
theorem c_Row_init {l : Launch} {D : va_G} {cB cI cJ : ClassId} (h0 : Nat) : Ct classes BW l D (TY cB cI cJ) y_Row_init b_Row_init 1 none ({ frames := 1, cells := 1, slots := 1024, locals := 12 } : Room) [.ref h0] [(h0, .inr (0, [.null, .int 0]))] (fun _ : Nat => True) (fun _ => none) (fun u => [(h0, .inr (0, [.ref u, .int 0])), (u, .inl (cB, 1024, .inl (fun _ => 0)))]) 1 1024 := by
  refine Ct.intro (by decide +kernel) (Nat.le_of_ble_eq_true rfl) ?_
  intro p e s m below meth c hx hb hr hml hlocks hnm hown hK A hAe hA hS hP hD ls hl Q hQ
  have hown : s.vm.findClass "PictureFile$Row" = some m.cls := hown
  have hH : Hold classes BW D (TY cB cI cJ) p s m c b_Row_init 1 "PictureFile$Row" := ⟨bw_ok, hx, hb, hml, hown, hK⟩
  have hw : ∀ {w : Cond}, w ∈ BW → w.before ([.ref h0] : List Value).toArray s = true := fun h => Wd.at bw_ok hK.2 h
  have hl : lv_has ls 1 [(0, .ref h0)] := hl
  have hin : meth.name = "<init>" := hnm
  refine lv_aload_n hx hb d_Row_init_0 rfl (lv_at hl 0 rfl) ?_
  refine W.objInit hx hb hown (hw kw_310) (hw kw_311) (hw kw_312) rfl (by rw [hml]; exact hl.1) rfl d_Row_init_1 (Nat.le_of_ble_eq_true rfl) (Nat.le_of_ble_eq_true rfl) ?_
  refine W.eq (g2 := F0 m 4 ls []) rfl ?_
  refine lv_aload_n hx hb d_Row_init_4 rfl (lv_at hl 0 rfl) ?_
  refine lv_sipush (v := 1024) hx hb d_Row_init_5 (by decide) ?_
  refine va_newa (atype := .byte) (ty := .byte) (N' := 1024) (a0 := (1024, (.inl (fun _ => 0)))) hx hb (hw kw_313) rfl hK.1 hP hD hS hA (fun _ => rfl) (by decide) (by decide) (by decide) (Nat.le_of_ble_eq_true rfl) (Nat.le_of_ble_eq_true rfl) d_Row_init_8 (fun q1 cA H hK2 hP hD hS => ?_)
  have hcA : cA = cB := ty_same hK2 0 rfl
  have hP : va_P D classes [(h0, .inr (0, [.null, .int 0])), (q1, .inl (cB, 1024, .inl (fun _ => 0)))] H := by rw [hcA] at hP; exact hP
  have hD : va_D A [(h0, .inr (0, [.null, .int 0])), (q1, .inl (cB, 1024, .inl (fun _ => 0)))] := by rw [hcA] at hD; exact hD
  clear hcA hK2
  refine W.widen (k := 1) (n := 1024) (by decide) (by decide) ?_
  refine va_put (D := D) (ci := 0) (v := .ref q1) (ty := .array .byte) (C := R_Row) (T := F_Row) (N := 2) hx hb (kl_Row hK.2) (fun _ h => h) t_Row t_Row_ok n_Row hown hK.1 hP hD hS 0 rfl rfl 0 (by decide) (hw kw_12) (fun _ h9 => h9) rfl (t_Row_ok 0 (by decide)) rfl rfl (Nat.le_of_ble_eq_true rfl) d_Row_init_10 (fun H locs hP hD hS => ?_)
  have hP : va_P D classes [(h0, .inr (0, [.ref q1, .int 0])), (q1, .inl (cB, 1024, .inl (fun _ => 0)))] H := hP
  have hD : va_D A [(h0, .inr (0, [.ref q1, .int 0])), (q1, .inl (cB, 1024, .inl (fun _ => 0)))] := hD
  exact ct_vret hx hb hr hlocks d_Row_init_13 ⟨Nat.le_refl _, Nat.le_refl _⟩ hQ hAe hS q1 rfl trivial (hP.sub [0, 1] rfl) (hD.sub [0, 1] rfl rfl)
set_option maxHeartbeats 4000000 in
set_option maxRecDepth 100000 in
theorem c_St_init {l : Launch} {D : va_G} {cB cI cJ : ClassId} (h0 : Nat) (p0 : Int32) : Ct classes BW l D (TY cB cI cJ) y_St_init b_St_init 2 none ({ frames := 1, cells := 1, slots := 32, locals := 12 } : Room) [.ref h0, .int p0] [(h0, .inr (1, [.int 0, .null, .int 0]))] (fun _ : Nat => True) (fun _ => none) (fun u => [(h0, .inr (1, [.int p0, .ref u, .int 0])), (u, .inl (cI, 32, .inl (fun _ => 0)))]) 1 32 := by
  refine Ct.intro (by decide +kernel) (Nat.le_of_ble_eq_true rfl) ?_
  intro p e s m below meth c hx hb hr hml hlocks hnm hown hK A hAe hA hS hP hD ls hl Q hQ
  have hown : s.vm.findClass "PictureFile$Strips" = some m.cls := hown
  have hH : Hold classes BW D (TY cB cI cJ) p s m c b_St_init 2 "PictureFile$Strips" := ⟨bw_ok, hx, hb, hml, hown, hK⟩
  have hw : ∀ {w : Cond}, w ∈ BW → w.before ([.ref h0, .int p0] : List Value).toArray s = true := fun h => Wd.at bw_ok hK.2 h
  have hl : lv_has ls 2 [(0, .ref h0), (1, .int p0)] := hl
  have hin : meth.name = "<init>" := hnm
  refine lv_aload_n hx hb d_St_init_0 rfl (lv_at hl 0 rfl) ?_
  refine W.objInit hx hb hown (hw kw_314) (hw kw_311) (hw kw_312) rfl (by rw [hml]; exact hl.1) rfl d_St_init_1 (Nat.le_of_ble_eq_true rfl) (Nat.le_of_ble_eq_true rfl) ?_
  refine W.eq (g2 := F0 m 4 ls []) rfl ?_
  refine lv_aload_n hx hb d_St_init_4 rfl (lv_at hl 0 rfl) ?_
  refine lv_bipush (v := 32) hx hb d_St_init_5 (by decide) ?_
  refine va_newa (atype := .int) (ty := .int) (N' := 32) (a0 := (32, (.inl (fun _ => 0)))) hx hb (hw kw_315) rfl hK.1 hP hD hS hA (fun _ => rfl) (by decide) (by decide) (by decide) (Nat.le_of_ble_eq_true rfl) (Nat.le_of_ble_eq_true rfl) d_St_init_7 (fun q1 cA H hK2 hP hD hS => ?_)
  have hcA : cA = cI := ty_same hK2 1 rfl
  have hP : va_P D classes [(h0, .inr (1, [.int 0, .null, .int 0])), (q1, .inl (cI, 32, .inl (fun _ => 0)))] H := by rw [hcA] at hP; exact hP
  have hD : va_D A [(h0, .inr (1, [.int 0, .null, .int 0])), (q1, .inl (cI, 32, .inl (fun _ => 0)))] := by rw [hcA] at hD; exact hD
  clear hcA hK2
  refine W.widen (k := 1) (n := 32) (by decide) (by decide) ?_
  refine va_put (D := D) (ci := 1) (v := .ref q1) (ty := .array .int) (C := R_St) (T := F_St) (N := 3) hx hb (kl_St hK.2) (fun _ h => h) t_St t_St_ok n_St hown hK.1 hP hD hS 0 rfl rfl 1 (by decide) (hw kw_38) (fun _ h9 => h9) rfl (t_St_ok 1 (by decide)) rfl rfl (Nat.le_of_ble_eq_true rfl) d_St_init_9 (fun H locs hP hD hS => ?_)
  have hP : va_P D classes [(h0, .inr (1, [.int 0, .ref q1, .int 0])), (q1, .inl (cI, 32, .inl (fun _ => 0)))] H := hP
  have hD : va_D A [(h0, .inr (1, [.int 0, .ref q1, .int 0])), (q1, .inl (cI, 32, .inl (fun _ => 0)))] := hD
  refine lv_aload_n hx hb d_St_init_12 rfl (lv_at hl 0 rfl) ?_
  refine lv_iload_n hx hb d_St_init_13 rfl (lv_at hl 1 rfl) ?_
  refine va_putF (D := D) (ci := 1) (v := .int p0) (ty := .int) (C := R_St) (T := F_St) (N := 3) hx hb (kl_St hK.2) (fun _ h => h) t_St t_St_ok n_St hown hK.1 hP hD hS 0 rfl rfl 0 (by decide) (hw kw_40) (fun _ h9 => h9) rfl hin rfl (t_St_ok 0 (by decide)) rfl rfl (Nat.le_of_ble_eq_true rfl) d_St_init_14 (fun H locs hP hD hS => ?_)
  have hP : va_P D classes [(h0, .inr (1, [.int p0, .ref q1, .int 0])), (q1, .inl (cI, 32, .inl (fun _ => 0)))] H := hP
  have hD : va_D A [(h0, .inr (1, [.int p0, .ref q1, .int 0])), (q1, .inl (cI, 32, .inl (fun _ => 0)))] := hD
  exact ct_vret hx hb hr hlocks d_St_init_17 ⟨Nat.le_refl _, Nat.le_refl _⟩ hQ hAe hS q1 rfl trivial (hP.sub [0, 1] rfl) (hD.sub [0, 1] rfl rfl)
set_option maxHeartbeats 4000000 in
set_option maxRecDepth 100000 in
theorem c_Mk_init {l : Launch} {D : va_G} {cB cI cJ : ClassId} (h0 : Nat) (p0 : Nat) : Ct classes BW l D (TY cB cI cJ) y_Mk_init b_Mk_init 2 none ({ frames := 2, cells := 2, slots := 35, locals := 33 } : Room) [.ref h0, .ref p0] [(h0, .inr (2, [.null, .null, .int 0, .int 0, .int 0, .int 0, .int 0, .int 0, .int 0, .int 0, .int 0, .int 0, .int 0, .int 0]))] (fun _ : Nat × Nat => True) (fun _ => none) (fun u => [(h0, .inr (2, [.ref p0, .ref u.1, .int 0, .int 0, .int 0, .int 0, .int 0, .int 0, .int 0, .int 0, .int 0, .int 0, .int 0, .int 0])), (u.1, .inr (1, [.int 512, .ref u.2, .int 0])), (u.2, .inl (cI, 32, .inl (fun _ => 0)))]) 2 35 := by
  refine Ct.intro (by decide +kernel) (Nat.le_of_ble_eq_true rfl) ?_
  intro p e s m below meth c hx hb hr hml hlocks hnm hown hK A hAe hA hS hP hD ls hl Q hQ
  have hown : s.vm.findClass "PictureFile$Maker" = some m.cls := hown
  have hH : Hold classes BW D (TY cB cI cJ) p s m c b_Mk_init 2 "PictureFile$Maker" := ⟨bw_ok, hx, hb, hml, hown, hK⟩
  have hw : ∀ {w : Cond}, w ∈ BW → w.before ([.ref h0, .ref p0] : List Value).toArray s = true := fun h => Wd.at bw_ok hK.2 h
  have hl : lv_has ls 2 [(0, .ref h0), (1, .ref p0)] := hl
  have hin : meth.name = "<init>" := hnm
  refine lv_aload_n hx hb d_Mk_init_0 rfl (lv_at hl 0 rfl) ?_
  refine W.objInit hx hb hown (hw kw_316) (hw kw_311) (hw kw_312) rfl (by rw [hml]; exact hl.1) rfl d_Mk_init_1 (Nat.le_of_ble_eq_true rfl) (Nat.le_of_ble_eq_true rfl) ?_
  refine W.eq (g2 := F0 m 4 ls []) rfl ?_
  refine lv_aload_n hx hb d_Mk_init_4 rfl (lv_at hl 0 rfl) ?_
  refine va_new (D := D) (ci := 1) (fs := [.int 0, .null, .int 0]) (C := R_St) (T := F_St) (N := 3) hx hb (kl_St hK.2) (fun _ h => h) t_St t_St_ok hown (hw kw_317) (hw kw_318) (hw kw_86) hK.1 hP hD hS hA rfl (fun j hj => by rcases (show j = 0 ∨ j = 1 ∨ j = 2 by omega) with rfl | rfl | rfl <;> rfl) (Nat.le_of_ble_eq_true rfl) (Nat.le_of_ble_eq_true rfl) d_Mk_init_5 (fun q1 H hP hD hS => ?_)
  have hP : va_P D classes [(h0, .inr (2, [.null, .null, .int 0, .int 0, .int 0, .int 0, .int 0, .int 0, .int 0, .int 0, .int 0, .int 0, .int 0, .int 0])), (q1, .inr (1, [.int 0, .null, .int 0]))] H := hP
  have hD : va_D A [(h0, .inr (2, [.null, .null, .int 0, .int 0, .int 0, .int 0, .int 0, .int 0, .int 0, .int 0, .int 0, .int 0, .int 0, .int 0])), (q1, .inr (1, [.int 0, .null, .int 0]))] := hD
  refine W.widen (k := 1) (n := 3) (by decide) (by decide) ?_
  refine lv_dup hx hb d_Mk_init_8 rfl ?_
  refine lv_sipush (v := 512) hx hb d_Mk_init_9 (by decide) ?_
  refine ct_fin (wr := [(h0, .inr (2, [.null, .null, .int 0, .int 0, .int 0, .int 0, .int 0, .int 0, .int 0, .int 0, .int 0, .int 0, .int 0, .int 0]))]) (ct_runIN (host := "PictureFile") (n := 1) (b := q1) (As := [.int 512]) (rest := [.ref q1, .ref h0]) hH (c_St_init q1 512 _) ⟨cal_St_init, ⟨Nat.le_of_ble_eq_true rfl, Nat.le_of_ble_eq_true rfl⟩, (Nat.le_of_ble_eq_true rfl), (Nat.le_of_ble_eq_true rfl)⟩ rfl kw_319 kw_320 kw_86 kw_321 (hP.sub (ws' := [(q1, .inr (1, [.int 0, .null, .int 0]))]) [1] rfl) (hD.sub (ws' := [(q1, .inr (1, [.int 0, .null, .int 0]))]) [1] rfl rfl) rfl hl.1 (Nat.le_of_ble_eq_true rfl) d_Mk_init_12) hP hD hS hA [1] [0] rfl rfl rfl (by decide) (fun u H locs hp hP hD hS => ?_)
  obtain ⟨q2_0, rfl⟩ : ∃ z, z = u := ⟨_, rfl⟩
  have hP : va_P D classes [(h0, .inr (2, [.null, .null, .int 0, .int 0, .int 0, .int 0, .int 0, .int 0, .int 0, .int 0, .int 0, .int 0, .int 0, .int 0])), (q1, .inr (1, [.int 512, .ref q2_0, .int 0])), (q2_0, .inl (cI, 32, .inl (fun _ => 0)))] H := hP
  have hD : va_D A [(h0, .inr (2, [.null, .null, .int 0, .int 0, .int 0, .int 0, .int 0, .int 0, .int 0, .int 0, .int 0, .int 0, .int 0, .int 0])), (q1, .inr (1, [.int 512, .ref q2_0, .int 0])), (q2_0, .inl (cI, 32, .inl (fun _ => 0)))] := hD
  refine W.widen (k := 2) (n := 35) (by decide) (by decide) ?_
  refine W.eq (g2 := F0 m 15 ls [.ref q1, .ref h0]) rfl ?_
  refine va_putF (D := D) (ci := 2) (v := .ref q1) (ty := .object "PictureFile$Strips") (C := R_Mk) (T := F_Mk) (N := 14) hx hb (kl_Mk hK.2) (fun _ h => h) t_Mk t_Mk_ok n_Mk hown hK.1 hP hD hS 0 rfl rfl 1 (by decide) (hw kw_54) (fun _ h9 => h9) rfl hin rfl (t_Mk_ok 1 (by decide)) rfl rfl (Nat.le_of_ble_eq_true rfl) d_Mk_init_15 (fun H locs hP hD hS => ?_)
  have hP : va_P D classes [(h0, .inr (2, [.null, .ref q1, .int 0, .int 0, .int 0, .int 0, .int 0, .int 0, .int 0, .int 0, .int 0, .int 0, .int 0, .int 0])), (q1, .inr (1, [.int 512, .ref q2_0, .int 0])), (q2_0, .inl (cI, 32, .inl (fun _ => 0)))] H := hP
  have hD : va_D A [(h0, .inr (2, [.null, .ref q1, .int 0, .int 0, .int 0, .int 0, .int 0, .int 0, .int 0, .int 0, .int 0, .int 0, .int 0, .int 0])), (q1, .inr (1, [.int 512, .ref q2_0, .int 0])), (q2_0, .inl (cI, 32, .inl (fun _ => 0)))] := hD
  refine lv_aload_n hx hb d_Mk_init_18 rfl (lv_at hl 0 rfl) ?_
  refine lv_aload_n hx hb d_Mk_init_19 rfl (lv_at hl 1 rfl) ?_
  refine va_putF (D := D) (ci := 2) (v := .ref p0) (ty := .object "PictureFile$Row") (C := R_Mk) (T := F_Mk) (N := 14) hx hb (kl_Mk hK.2) (fun _ h => h) t_Mk t_Mk_ok n_Mk hown hK.1 hP hD hS 0 rfl rfl 0 (by decide) (hw kw_45) (fun _ h9 => h9) rfl hin rfl (t_Mk_ok 0 (by decide)) rfl rfl (Nat.le_of_ble_eq_true rfl) d_Mk_init_20 (fun H locs hP hD hS => ?_)
  have hP : va_P D classes [(h0, .inr (2, [.ref p0, .ref q1, .int 0, .int 0, .int 0, .int 0, .int 0, .int 0, .int 0, .int 0, .int 0, .int 0, .int 0, .int 0])), (q1, .inr (1, [.int 512, .ref q2_0, .int 0])), (q2_0, .inl (cI, 32, .inl (fun _ => 0)))] H := hP
  have hD : va_D A [(h0, .inr (2, [.ref p0, .ref q1, .int 0, .int 0, .int 0, .int 0, .int 0, .int 0, .int 0, .int 0, .int 0, .int 0, .int 0, .int 0])), (q1, .inr (1, [.int 512, .ref q2_0, .int 0])), (q2_0, .inl (cI, 32, .inl (fun _ => 0)))] := hD
  exact ct_vret hx hb hr hlocks d_Mk_init_23 ⟨Nat.le_refl _, Nat.le_refl _⟩ hQ hAe hS (q1, q2_0) rfl trivial (hP.sub [0, 1, 2] rfl) (hD.sub [0, 1, 2] rfl rfl)
set_option maxHeartbeats 4000000 in
set_option maxRecDepth 100000 in
theorem c_Pn_init {l : Launch} {D : va_G} {cB cI cJ : ClassId} (h0 : Nat) : Ct classes BW l D (TY cB cI cJ) y_Pn_init b_Pn_init 1 none ({ frames := 1, cells := 1, slots := 520, locals := 12 } : Room) [.ref h0] [(h0, .inr (3, [.null]))] (fun _ : Nat => True) (fun _ => none) (fun u => [(h0, .inr (3, [.ref u])), (u, .inl (cJ, 520, .inr (.inl (fun _ => 0))))]) 1 520 := by
  refine Ct.intro (by decide +kernel) (Nat.le_of_ble_eq_true rfl) ?_
  intro p e s m below meth c hx hb hr hml hlocks hnm hown hK A hAe hA hS hP hD ls hl Q hQ
  have hown : s.vm.findClass "PictureFile$PageNumbers" = some m.cls := hown
  have hH : Hold classes BW D (TY cB cI cJ) p s m c b_Pn_init 1 "PictureFile$PageNumbers" := ⟨bw_ok, hx, hb, hml, hown, hK⟩
  have hw : ∀ {w : Cond}, w ∈ BW → w.before ([.ref h0] : List Value).toArray s = true := fun h => Wd.at bw_ok hK.2 h
  have hl : lv_has ls 1 [(0, .ref h0)] := hl
  have hin : meth.name = "<init>" := hnm
  refine lv_aload_n hx hb d_Pn_init_0 rfl (lv_at hl 0 rfl) ?_
  refine W.objInit hx hb hown (hw kw_322) (hw kw_311) (hw kw_312) rfl (by rw [hml]; exact hl.1) rfl d_Pn_init_1 (Nat.le_of_ble_eq_true rfl) (Nat.le_of_ble_eq_true rfl) ?_
  refine W.eq (g2 := F0 m 4 ls []) rfl ?_
  refine lv_aload_n hx hb d_Pn_init_4 rfl (lv_at hl 0 rfl) ?_
  refine lv_sipush (v := 520) hx hb d_Pn_init_5 (by decide) ?_
  refine va_newa (atype := .long) (ty := .long) (N' := 520) (a0 := (520, (.inr (.inl (fun _ => 0))))) hx hb (hw kw_323) rfl hK.1 hP hD hS hA (fun _ => rfl) (by decide) (by decide) (by decide) (Nat.le_of_ble_eq_true rfl) (Nat.le_of_ble_eq_true rfl) d_Pn_init_8 (fun q1 cA H hK2 hP hD hS => ?_)
  have hcA : cA = cJ := ty_same hK2 2 rfl
  have hP : va_P D classes [(h0, .inr (3, [.null])), (q1, .inl (cJ, 520, .inr (.inl (fun _ => 0))))] H := by rw [hcA] at hP; exact hP
  have hD : va_D A [(h0, .inr (3, [.null])), (q1, .inl (cJ, 520, .inr (.inl (fun _ => 0))))] := by rw [hcA] at hD; exact hD
  clear hcA hK2
  refine W.widen (k := 1) (n := 520) (by decide) (by decide) ?_
  refine va_putF (D := D) (ci := 3) (v := .ref q1) (ty := .array .long) (C := R_Pn) (T := F_Pn) (N := 1) hx hb (kl_Pn hK.2) (fun _ h => h) t_Pn t_Pn_ok n_Pn hown hK.1 hP hD hS 0 rfl rfl 0 (by decide) (hw kw_117) (fun _ h9 => h9) rfl hin rfl (t_Pn_ok 0 (by decide)) rfl rfl (Nat.le_of_ble_eq_true rfl) d_Pn_init_10 (fun H locs hP hD hS => ?_)
  have hP : va_P D classes [(h0, .inr (3, [.ref q1])), (q1, .inl (cJ, 520, .inr (.inl (fun _ => 0))))] H := hP
  have hD : va_D A [(h0, .inr (3, [.ref q1])), (q1, .inl (cJ, 520, .inr (.inl (fun _ => 0))))] := hD
  exact ct_vret hx hb hr hlocks d_Pn_init_13 ⟨Nat.le_refl _, Nat.le_refl _⟩ hQ hAe hS q1 rfl trivial (hP.sub [0, 1] rfl) (hD.sub [0, 1] rfl rfl)
set_option maxHeartbeats 4000000 in
set_option maxRecDepth 100000 in
theorem c_En_init {l : Launch} {D : va_G} {cB cI cJ : ClassId} (h0 : Nat) (p0 : Nat) : Ct classes BW l D (TY cB cI cJ) y_En_init b_En_init 2 none ({ frames := 1, cells := 3, slots := 123, locals := 12 } : Room) [.ref h0, .ref p0] [(h0, .inr (4, [.null, .null, .null, .null]))] (fun _ : Nat × Nat × Nat => True) (fun _ => none) (fun u => [(h0, .inr (4, [.ref p0, .ref u.1, .ref u.2.1, .ref u.2.2])), (u.1, .inl (cI, 41, .inl (fun _ => 0))), (u.2.1, .inl (cI, 41, .inl (fun _ => 0))), (u.2.2, .inl (cI, 41, .inl (fun _ => 0)))]) 3 123 := by
  refine Ct.intro (by decide +kernel) (Nat.le_of_ble_eq_true rfl) ?_
  intro p e s m below meth c hx hb hr hml hlocks hnm hown hK A hAe hA hS hP hD ls hl Q hQ
  have hown : s.vm.findClass "PictureFile$Entries" = some m.cls := hown
  have hH : Hold classes BW D (TY cB cI cJ) p s m c b_En_init 2 "PictureFile$Entries" := ⟨bw_ok, hx, hb, hml, hown, hK⟩
  have hw : ∀ {w : Cond}, w ∈ BW → w.before ([.ref h0, .ref p0] : List Value).toArray s = true := fun h => Wd.at bw_ok hK.2 h
  have hl : lv_has ls 2 [(0, .ref h0), (1, .ref p0)] := hl
  have hin : meth.name = "<init>" := hnm
  refine lv_aload_n hx hb d_En_init_0 rfl (lv_at hl 0 rfl) ?_
  refine W.objInit hx hb hown (hw kw_324) (hw kw_311) (hw kw_312) rfl (by rw [hml]; exact hl.1) rfl d_En_init_1 (Nat.le_of_ble_eq_true rfl) (Nat.le_of_ble_eq_true rfl) ?_
  refine W.eq (g2 := F0 m 4 ls []) rfl ?_
  refine lv_aload_n hx hb d_En_init_4 rfl (lv_at hl 0 rfl) ?_
  refine lv_bipush (v := 41) hx hb d_En_init_5 (by decide) ?_
  refine va_newa (atype := .int) (ty := .int) (N' := 41) (a0 := (41, (.inl (fun _ => 0)))) hx hb (hw kw_315) rfl hK.1 hP hD hS hA (fun _ => rfl) (by decide) (by decide) (by decide) (Nat.le_of_ble_eq_true rfl) (Nat.le_of_ble_eq_true rfl) d_En_init_7 (fun q1 cA H hK2 hP hD hS => ?_)
  have hcA : cA = cI := ty_same hK2 1 rfl
  have hP : va_P D classes [(h0, .inr (4, [.null, .null, .null, .null])), (q1, .inl (cI, 41, .inl (fun _ => 0)))] H := by rw [hcA] at hP; exact hP
  have hD : va_D A [(h0, .inr (4, [.null, .null, .null, .null])), (q1, .inl (cI, 41, .inl (fun _ => 0)))] := by rw [hcA] at hD; exact hD
  clear hcA hK2
  refine W.widen (k := 1) (n := 41) (by decide) (by decide) ?_
  refine va_putF (D := D) (ci := 4) (v := .ref q1) (ty := .array .int) (C := R_En) (T := F_En) (N := 4) hx hb (kl_En hK.2) (fun _ h => h) t_En t_En_ok n_En hown hK.1 hP hD hS 0 rfl rfl 1 (by decide) (hw kw_138) (fun _ h9 => h9) rfl hin rfl (t_En_ok 1 (by decide)) rfl rfl (Nat.le_of_ble_eq_true rfl) d_En_init_9 (fun H locs hP hD hS => ?_)
  have hP : va_P D classes [(h0, .inr (4, [.null, .ref q1, .null, .null])), (q1, .inl (cI, 41, .inl (fun _ => 0)))] H := hP
  have hD : va_D A [(h0, .inr (4, [.null, .ref q1, .null, .null])), (q1, .inl (cI, 41, .inl (fun _ => 0)))] := hD
  refine lv_aload_n hx hb d_En_init_12 rfl (lv_at hl 0 rfl) ?_
  refine lv_bipush (v := 41) hx hb d_En_init_13 (by decide) ?_
  refine va_newa (atype := .int) (ty := .int) (N' := 41) (a0 := (41, (.inl (fun _ => 0)))) hx hb (hw kw_315) rfl hK.1 hP hD hS hA (fun _ => rfl) (by decide) (by decide) (by decide) (Nat.le_of_ble_eq_true rfl) (Nat.le_of_ble_eq_true rfl) d_En_init_15 (fun q2 cA H hK2 hP hD hS => ?_)
  have hcA : cA = cI := ty_same hK2 1 rfl
  have hP : va_P D classes [(h0, .inr (4, [.null, .ref q1, .null, .null])), (q1, .inl (cI, 41, .inl (fun _ => 0))), (q2, .inl (cI, 41, .inl (fun _ => 0)))] H := by rw [hcA] at hP; exact hP
  have hD : va_D A [(h0, .inr (4, [.null, .ref q1, .null, .null])), (q1, .inl (cI, 41, .inl (fun _ => 0))), (q2, .inl (cI, 41, .inl (fun _ => 0)))] := by rw [hcA] at hD; exact hD
  clear hcA hK2
  refine W.widen (k := 2) (n := 82) (by decide) (by decide) ?_
  refine va_putF (D := D) (ci := 4) (v := .ref q2) (ty := .array .int) (C := R_En) (T := F_En) (N := 4) hx hb (kl_En hK.2) (fun _ h => h) t_En t_En_ok n_En hown hK.1 hP hD hS 0 rfl rfl 2 (by decide) (hw kw_128) (fun _ h9 => h9) rfl hin rfl (t_En_ok 2 (by decide)) rfl rfl (Nat.le_of_ble_eq_true rfl) d_En_init_17 (fun H locs hP hD hS => ?_)
  have hP : va_P D classes [(h0, .inr (4, [.null, .ref q1, .ref q2, .null])), (q1, .inl (cI, 41, .inl (fun _ => 0))), (q2, .inl (cI, 41, .inl (fun _ => 0)))] H := hP
  have hD : va_D A [(h0, .inr (4, [.null, .ref q1, .ref q2, .null])), (q1, .inl (cI, 41, .inl (fun _ => 0))), (q2, .inl (cI, 41, .inl (fun _ => 0)))] := hD
  refine lv_aload_n hx hb d_En_init_20 rfl (lv_at hl 0 rfl) ?_
  refine lv_bipush (v := 41) hx hb d_En_init_21 (by decide) ?_
  refine va_newa (atype := .int) (ty := .int) (N' := 41) (a0 := (41, (.inl (fun _ => 0)))) hx hb (hw kw_315) rfl hK.1 hP hD hS hA (fun _ => rfl) (by decide) (by decide) (by decide) (Nat.le_of_ble_eq_true rfl) (Nat.le_of_ble_eq_true rfl) d_En_init_23 (fun q3 cA H hK2 hP hD hS => ?_)
  have hcA : cA = cI := ty_same hK2 1 rfl
  have hP : va_P D classes [(h0, .inr (4, [.null, .ref q1, .ref q2, .null])), (q1, .inl (cI, 41, .inl (fun _ => 0))), (q2, .inl (cI, 41, .inl (fun _ => 0))), (q3, .inl (cI, 41, .inl (fun _ => 0)))] H := by rw [hcA] at hP; exact hP
  have hD : va_D A [(h0, .inr (4, [.null, .ref q1, .ref q2, .null])), (q1, .inl (cI, 41, .inl (fun _ => 0))), (q2, .inl (cI, 41, .inl (fun _ => 0))), (q3, .inl (cI, 41, .inl (fun _ => 0)))] := by rw [hcA] at hD; exact hD
  clear hcA hK2
  refine W.widen (k := 3) (n := 123) (by decide) (by decide) ?_
  refine va_putF (D := D) (ci := 4) (v := .ref q3) (ty := .array .int) (C := R_En) (T := F_En) (N := 4) hx hb (kl_En hK.2) (fun _ h => h) t_En t_En_ok n_En hown hK.1 hP hD hS 0 rfl rfl 3 (by decide) (hw kw_139) (fun _ h9 => h9) rfl hin rfl (t_En_ok 3 (by decide)) rfl rfl (Nat.le_of_ble_eq_true rfl) d_En_init_25 (fun H locs hP hD hS => ?_)
  have hP : va_P D classes [(h0, .inr (4, [.null, .ref q1, .ref q2, .ref q3])), (q1, .inl (cI, 41, .inl (fun _ => 0))), (q2, .inl (cI, 41, .inl (fun _ => 0))), (q3, .inl (cI, 41, .inl (fun _ => 0)))] H := hP
  have hD : va_D A [(h0, .inr (4, [.null, .ref q1, .ref q2, .ref q3])), (q1, .inl (cI, 41, .inl (fun _ => 0))), (q2, .inl (cI, 41, .inl (fun _ => 0))), (q3, .inl (cI, 41, .inl (fun _ => 0)))] := hD
  refine lv_aload_n hx hb d_En_init_28 rfl (lv_at hl 0 rfl) ?_
  refine lv_aload_n hx hb d_En_init_29 rfl (lv_at hl 1 rfl) ?_
  refine va_putF (D := D) (ci := 4) (v := .ref p0) (ty := .object "PictureFile$Row") (C := R_En) (T := F_En) (N := 4) hx hb (kl_En hK.2) (fun _ h => h) t_En t_En_ok n_En hown hK.1 hP hD hS 0 rfl rfl 0 (by decide) (hw kw_140) (fun _ h9 => h9) rfl hin rfl (t_En_ok 0 (by decide)) rfl rfl (Nat.le_of_ble_eq_true rfl) d_En_init_30 (fun H locs hP hD hS => ?_)
  have hP : va_P D classes [(h0, .inr (4, [.ref p0, .ref q1, .ref q2, .ref q3])), (q1, .inl (cI, 41, .inl (fun _ => 0))), (q2, .inl (cI, 41, .inl (fun _ => 0))), (q3, .inl (cI, 41, .inl (fun _ => 0)))] H := hP
  have hD : va_D A [(h0, .inr (4, [.ref p0, .ref q1, .ref q2, .ref q3])), (q1, .inl (cI, 41, .inl (fun _ => 0))), (q2, .inl (cI, 41, .inl (fun _ => 0))), (q3, .inl (cI, 41, .inl (fun _ => 0)))] := hD
  exact ct_vret hx hb hr hlocks d_En_init_33 ⟨Nat.le_refl _, Nat.le_refl _⟩ hQ hAe hS (q1, q2, q3) rfl trivial (hP.sub [0, 1, 2, 3] rfl) (hD.sub [0, 1, 2, 3] rfl rfl)
