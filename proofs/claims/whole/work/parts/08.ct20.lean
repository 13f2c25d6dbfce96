set_option maxHeartbeats 4000000 in
set_option maxRecDepth 100000 in
theorem c_Md_start {l : Launch} {D : va_G} {cB cI cJ : ClassId} (h0 h1 h2 h3 h4 h5 h6 h7 h8 : Nat) (md : Nat → Int32) (sz : Int32) (fr : Int32) (bf : Nat → Int32) (mp : Nat → Int32) (ml : Nat → Int32) (mn : Nat → Int64) (mf : Nat → Int32) (sp : Nat → Int32) (sl : Nat → Int32) (et : Nat → Int32) (hG : G_Md_start sz) : Ct classes BW l D (TY cB cI cJ) y_Md_start b_Md_start 1 none ({ frames := 1, cells := 0, slots := 0, locals := 21 } : Room) [.ref h0] [(h0, .inr (7, [.int (md 0), .ref h1, .int sz, .int (md 1), .int (md 2), .int (md 3), .int (md 4), .int (md 5), .int (md 6), .int (md 7), .int (md 8), .int (md 9), .int (md 10), .int (md 11), .int (md 12), .int fr, .int (md 13), .ref h2, .ref h3, .int (md 14), .int (md 15), .ref h4, .ref h5, .ref h6, .ref h7, .int (md 16), .int (md 17), .int (md 18), .int (md 19), .ref h8])), (h1, .inl (cB, 65536, .inl bf)), (h2, .inl (cI, 512, .inl mp)), (h3, .inl (cI, 512, .inl ml)), (h4, .inl (cJ, 520, .inr (.inl mn))), (h5, .inl (cI, 41, .inl mf)), (h6, .inl (cI, 8192, .inl sp)), (h7, .inl (cI, 8192, .inl sl)), (h8, .inl (cI, 11, .inl et))] (fun u : Int32 × Int32 × (Nat → Int32) => u = M_Md_start sz bf) (fun u => none) (fun u => [(h0, .inr (7, [.int (md 0), .ref h1, .int u.1, .int (md 1), .int (md 2), .int (md 3), .int (md 4), .int (md 5), .int (md 6), .int (md 7), .int (md 8), .int (md 9), .int (md 10), .int (md 11), .int (md 12), .int u.2.1, .int (md 13), .ref h2, .ref h3, .int (md 14), .int (md 15), .ref h4, .ref h5, .ref h6, .ref h7, .int (md 16), .int (md 17), .int (md 18), .int (md 19), .ref h8])), (h1, .inl (cB, 65536, .inl u.2.2)), (h2, .inl (cI, 512, .inl mp)), (h3, .inl (cI, 512, .inl ml)), (h4, .inl (cJ, 520, .inr (.inl mn))), (h5, .inl (cI, 41, .inl mf)), (h6, .inl (cI, 8192, .inl sp)), (h7, .inl (cI, 8192, .inl sl)), (h8, .inl (cI, 11, .inl et))]) (0) (0) := by
  refine Ct.intro (by decide +kernel) (Nat.le_of_ble_eq_true rfl) ?_
  intro p e s m below meth c hx hb hr hml hlocks hnm hown hK A hAe hA hS hP hD ls hl Q hQ
  have hown : s.vm.findClass "PictureFileModel" = some m.cls := hown
  have hH : Hold classes BW D (TY cB cI cJ) p s m c b_Md_start 1 "PictureFileModel" := ⟨bw_ok, hx, hb, hml, hown, hK⟩
  have hw : ∀ {w : Cond}, w ∈ BW → w.before ([.ref h0] : List Value).toArray s = true := fun h => Wd.at bw_ok hK.2 h
  have hl : lv_has ls 1 [(0, .ref h0)] := hl
  unfold G_Md_start at hG
  refine lv_aload_n hx hb d_Md_start_0 rfl (lv_at hl 0 rfl) ?_
  refine va_get (D := D) (ci := 7) (C := R_Md) (T := F_Md) (N := 30) hx hb (kl_Md hK.2) (fun _ h => h) hown hK.1 hP 0 rfl rfl 2 (by decide) (hw kw_312) (fun _ h9 => h9) rfl d_Md_start_1 ?_
  refine lv_iconst (v := 2) hx hb d_Md_start_4 (by decide) ?_
  refine lv_irem hx hb d_Md_start_5 (by decide) ?_
  refine lv_iconst (v := 1) hx hb d_Md_start_6 (by decide) ?_
  refine lv_icmp_ne (tgt := 15) hx hb d_Md_start_7 (by decide) (fun c_1 => ?_) (fun c_1 => ?_)
  · replace hG := gp_neg c_1 hG
    refine lv_aload_n hx hb d_Md_start_15 rfl (lv_at hl 0 rfl) ?_
    refine lv_aload_n hx hb d_Md_start_16 rfl (lv_at hl 0 rfl) ?_
    refine va_get (D := D) (ci := 7) (C := R_Md) (T := F_Md) (N := 30) hx hb (kl_Md hK.2) (fun _ h => h) hown hK.1 hP 0 rfl rfl 2 (by decide) (hw kw_312) (fun _ h9 => h9) rfl d_Md_start_17 ?_
    refine va_put (D := D) (ci := 7) (v := .int sz) (ty := .int) (C := R_Md) (T := F_Md) (N := 30) hx hb (kl_Md hK.2) (fun _ h => h) t_Md t_Md_ok n_Md hown hK.1 hP hD hS 0 rfl rfl 15 (by decide) (hw kw_339) (fun _ h9 => h9) rfl (t_Md_ok 15 (by decide)) rfl rfl (Nat.le_of_ble_eq_true rfl) d_Md_start_20 (fun H locs hP hD hS => ?_)
    have hP : va_P D classes [(h0, .inr (7, [.int (md 0), .ref h1, .int sz, .int (md 1), .int (md 2), .int (md 3), .int (md 4), .int (md 5), .int (md 6), .int (md 7), .int (md 8), .int (md 9), .int (md 10), .int (md 11), .int (md 12), .int sz, .int (md 13), .ref h2, .ref h3, .int (md 14), .int (md 15), .ref h4, .ref h5, .ref h6, .ref h7, .int (md 16), .int (md 17), .int (md 18), .int (md 19), .ref h8])), (h1, .inl (cB, 65536, .inl bf)), (h2, .inl (cI, 512, .inl mp)), (h3, .inl (cI, 512, .inl ml)), (h4, .inl (cJ, 520, .inr (.inl mn))), (h5, .inl (cI, 41, .inl mf)), (h6, .inl (cI, 8192, .inl sp)), (h7, .inl (cI, 8192, .inl sl)), (h8, .inl (cI, 11, .inl et))] H := hP
    have hD : va_D A [(h0, .inr (7, [.int (md 0), .ref h1, .int sz, .int (md 1), .int (md 2), .int (md 3), .int (md 4), .int (md 5), .int (md 6), .int (md 7), .int (md 8), .int (md 9), .int (md 10), .int (md 11), .int (md 12), .int sz, .int (md 13), .ref h2, .ref h3, .int (md 14), .int (md 15), .ref h4, .ref h5, .ref h6, .ref h7, .int (md 16), .int (md 17), .int (md 18), .int (md 19), .ref h8])), (h1, .inl (cB, 65536, .inl bf)), (h2, .inl (cI, 512, .inl mp)), (h3, .inl (cI, 512, .inl ml)), (h4, .inl (cJ, 520, .inr (.inl mn))), (h5, .inl (cI, 41, .inl mf)), (h6, .inl (cI, 8192, .inl sp)), (h7, .inl (cI, 8192, .inl sl)), (h8, .inl (cI, 11, .inl et))] := hD
    have ef : M_Md_start sz bf = (sz, sz, bf) := by unfold M_Md_start; (try dsimp only); rw [if_neg c_1]
    exact ct_vret hx hb hr hlocks d_Md_start_23 ⟨Nat.zero_le _, Nat.zero_le _⟩ hQ hAe hS (sz, sz, bf) rfl ef.symm (hP.sub [0, 1, 2, 3, 4, 5, 6, 7, 8] rfl) (hD.sub [0, 1, 2, 3, 4, 5, 6, 7, 8] rfl rfl)
  · replace hG := gp_pos c_1 hG
    refine lv_aload_n hx hb d_Md_start_10 rfl (lv_at hl 0 rfl) ?_
    refine lv_iconst (v := 0) hx hb d_Md_start_11 (by decide) ?_
    have g_3 := hG
    refine ct_fin (wr := []) (ct_runV (n := 1) (C := R_Md) (b := h0) (As := [.int 0]) (rest := []) hH (c_Md_one h0 h1 h2 h3 h4 h5 h6 h7 h8 md sz fr bf mp ml mn mf sp sl et 0 g_3 _) ⟨cal_Md_one, ⟨Nat.le_of_ble_eq_true rfl, Nat.le_of_ble_eq_true rfl⟩, (Nat.le_of_ble_eq_true rfl), (Nat.le_of_ble_eq_true rfl)⟩ kw_314 kw_315 kw_316 kw_317 kw_318 (va_recv hK.1 hP (ci := 7) (q0 := 0) rfl rfl) (hP.sub (ws' := [(h0, .inr (7, [.int (md 0), .ref h1, .int sz, .int (md 1), .int (md 2), .int (md 3), .int (md 4), .int (md 5), .int (md 6), .int (md 7), .int (md 8), .int (md 9), .int (md 10), .int (md 11), .int (md 12), .int fr, .int (md 13), .ref h2, .ref h3, .int (md 14), .int (md 15), .ref h4, .ref h5, .ref h6, .ref h7, .int (md 16), .int (md 17), .int (md 18), .int (md 19), .ref h8])), (h1, .inl (cB, 65536, .inl bf)), (h2, .inl (cI, 512, .inl mp)), (h3, .inl (cI, 512, .inl ml)), (h4, .inl (cJ, 520, .inr (.inl mn))), (h5, .inl (cI, 41, .inl mf)), (h6, .inl (cI, 8192, .inl sp)), (h7, .inl (cI, 8192, .inl sl)), (h8, .inl (cI, 11, .inl et))]) [0, 1, 2, 3, 4, 5, 6, 7, 8] rfl) (hD.sub (ws' := [(h0, .inr (7, [.int (md 0), .ref h1, .int sz, .int (md 1), .int (md 2), .int (md 3), .int (md 4), .int (md 5), .int (md 6), .int (md 7), .int (md 8), .int (md 9), .int (md 10), .int (md 11), .int (md 12), .int fr, .int (md 13), .ref h2, .ref h3, .int (md 14), .int (md 15), .ref h4, .ref h5, .ref h6, .ref h7, .int (md 16), .int (md 17), .int (md 18), .int (md 19), .ref h8])), (h1, .inl (cB, 65536, .inl bf)), (h2, .inl (cI, 512, .inl mp)), (h3, .inl (cI, 512, .inl ml)), (h4, .inl (cJ, 520, .inr (.inl mn))), (h5, .inl (cI, 41, .inl mf)), (h6, .inl (cI, 8192, .inl sp)), (h7, .inl (cI, 8192, .inl sl)), (h8, .inl (cI, 11, .inl et))]) [0, 1, 2, 3, 4, 5, 6, 7, 8] rfl rfl) rfl hl.1 (Nat.le_of_ble_eq_true rfl) d_Md_start_12) hP hD hS hA [0, 1, 2, 3, 4, 5, 6, 7, 8] [] rfl rfl rfl (by decide) (fun u H locs hp hP hD hS => ?_)
    obtain ⟨x1, rfl⟩ : ∃ z, z = u := ⟨_, rfl⟩
    have e1 := hp
    try dsimp only at e1
    have hP : va_P D classes [(h0, .inr (7, [.int (md 0), .ref h1, .int x1.1, .int (md 1), .int (md 2), .int (md 3), .int (md 4), .int (md 5), .int (md 6), .int (md 7), .int (md 8), .int (md 9), .int (md 10), .int (md 11), .int (md 12), .int fr, .int (md 13), .ref h2, .ref h3, .int (md 14), .int (md 15), .ref h4, .ref h5, .ref h6, .ref h7, .int (md 16), .int (md 17), .int (md 18), .int (md 19), .ref h8])), (h1, .inl (cB, 65536, .inl x1.2)), (h2, .inl (cI, 512, .inl mp)), (h3, .inl (cI, 512, .inl ml)), (h4, .inl (cJ, 520, .inr (.inl mn))), (h5, .inl (cI, 41, .inl mf)), (h6, .inl (cI, 8192, .inl sp)), (h7, .inl (cI, 8192, .inl sl)), (h8, .inl (cI, 11, .inl et))] H := hP
    have hD : va_D A [(h0, .inr (7, [.int (md 0), .ref h1, .int x1.1, .int (md 1), .int (md 2), .int (md 3), .int (md 4), .int (md 5), .int (md 6), .int (md 7), .int (md 8), .int (md 9), .int (md 10), .int (md 11), .int (md 12), .int fr, .int (md 13), .ref h2, .ref h3, .int (md 14), .int (md 15), .ref h4, .ref h5, .ref h6, .ref h7, .int (md 16), .int (md 17), .int (md 18), .int (md 19), .ref h8])), (h1, .inl (cB, 65536, .inl x1.2)), (h2, .inl (cI, 512, .inl mp)), (h3, .inl (cI, 512, .inl ml)), (h4, .inl (cJ, 520, .inr (.inl mn))), (h5, .inl (cI, 41, .inl mf)), (h6, .inl (cI, 8192, .inl sp)), (h7, .inl (cI, 8192, .inl sl)), (h8, .inl (cI, 11, .inl et))] := hD
    refine W.eq (g2 := F0 m 15 ls []) rfl ?_
    refine lv_aload_n hx hb d_Md_start_15 rfl (lv_at hl 0 rfl) ?_
    refine lv_aload_n hx hb d_Md_start_16 rfl (lv_at hl 0 rfl) ?_
    refine va_get (D := D) (ci := 7) (C := R_Md) (T := F_Md) (N := 30) hx hb (kl_Md hK.2) (fun _ h => h) hown hK.1 hP 0 rfl rfl 2 (by decide) (hw kw_312) (fun _ h9 => h9) rfl d_Md_start_17 ?_
    refine va_put (D := D) (ci := 7) (v := .int x1.1) (ty := .int) (C := R_Md) (T := F_Md) (N := 30) hx hb (kl_Md hK.2) (fun _ h => h) t_Md t_Md_ok n_Md hown hK.1 hP hD hS 0 rfl rfl 15 (by decide) (hw kw_339) (fun _ h9 => h9) rfl (t_Md_ok 15 (by decide)) rfl rfl (Nat.le_of_ble_eq_true rfl) d_Md_start_20 (fun H locs hP hD hS => ?_)
    have hP : va_P D classes [(h0, .inr (7, [.int (md 0), .ref h1, .int x1.1, .int (md 1), .int (md 2), .int (md 3), .int (md 4), .int (md 5), .int (md 6), .int (md 7), .int (md 8), .int (md 9), .int (md 10), .int (md 11), .int (md 12), .int x1.1, .int (md 13), .ref h2, .ref h3, .int (md 14), .int (md 15), .ref h4, .ref h5, .ref h6, .ref h7, .int (md 16), .int (md 17), .int (md 18), .int (md 19), .ref h8])), (h1, .inl (cB, 65536, .inl x1.2)), (h2, .inl (cI, 512, .inl mp)), (h3, .inl (cI, 512, .inl ml)), (h4, .inl (cJ, 520, .inr (.inl mn))), (h5, .inl (cI, 41, .inl mf)), (h6, .inl (cI, 8192, .inl sp)), (h7, .inl (cI, 8192, .inl sl)), (h8, .inl (cI, 11, .inl et))] H := hP
    have hD : va_D A [(h0, .inr (7, [.int (md 0), .ref h1, .int x1.1, .int (md 1), .int (md 2), .int (md 3), .int (md 4), .int (md 5), .int (md 6), .int (md 7), .int (md 8), .int (md 9), .int (md 10), .int (md 11), .int (md 12), .int x1.1, .int (md 13), .ref h2, .ref h3, .int (md 14), .int (md 15), .ref h4, .ref h5, .ref h6, .ref h7, .int (md 16), .int (md 17), .int (md 18), .int (md 19), .ref h8])), (h1, .inl (cB, 65536, .inl x1.2)), (h2, .inl (cI, 512, .inl mp)), (h3, .inl (cI, 512, .inl ml)), (h4, .inl (cJ, 520, .inr (.inl mn))), (h5, .inl (cI, 41, .inl mf)), (h6, .inl (cI, 8192, .inl sp)), (h7, .inl (cI, 8192, .inl sl)), (h8, .inl (cI, 11, .inl et))] := hD
    have ef : M_Md_start sz bf = (x1.1, x1.1, x1.2) := by unfold M_Md_start; (try dsimp only); rw [if_pos c_1]; (try rw [← e1])
    exact ct_vret hx hb hr hlocks d_Md_start_23 ⟨Nat.zero_le _, Nat.zero_le _⟩ hQ hAe hS (x1.1, x1.1, x1.2) rfl ef.symm (hP.sub [0, 1, 2, 3, 4, 5, 6, 7, 8] rfl) (hD.sub [0, 1, 2, 3, 4, 5, 6, 7, 8] rfl rfl)
set_option maxHeartbeats 4000000 in
set_option maxRecDepth 100000 in
theorem c_Md_give {l : Launch} {D : va_G} {cB cI cJ : ClassId} (h0 h1 h2 h3 h4 h5 h6 h7 h8 : Nat) (md : Nat → Int32) (sz : Int32) (fr : Int32) (bf : Nat → Int32) (mp : Nat → Int32) (ml : Nat → Int32) (mn : Nat → Int64) (mf : Nat → Int32) (sp : Nat → Int32) (sl : Nat → Int32) (et : Nat → Int32) (p0 : Int64) (p1 : Int32) (hG : G_Md_give md sz bf p0 p1) : Ct classes BW l D (TY cB cI cJ) y_Md_give b_Md_give 5 (some .boolean) ({ frames := 1, cells := 0, slots := 0, locals := 21 } : Room) [.ref h0, .long p0, .int p1] [(h0, .inr (7, [.int (md 0), .ref h1, .int sz, .int (md 1), .int (md 2), .int (md 3), .int (md 4), .int (md 5), .int (md 6), .int (md 7), .int (md 8), .int (md 9), .int (md 10), .int (md 11), .int (md 12), .int fr, .int (md 13), .ref h2, .ref h3, .int (md 14), .int (md 15), .ref h4, .ref h5, .ref h6, .ref h7, .int (md 16), .int (md 17), .int (md 18), .int (md 19), .ref h8])), (h1, .inl (cB, 65536, .inl bf)), (h2, .inl (cI, 512, .inl mp)), (h3, .inl (cI, 512, .inl ml)), (h4, .inl (cJ, 520, .inr (.inl mn))), (h5, .inl (cI, 41, .inl mf)), (h6, .inl (cI, 8192, .inl sp)), (h7, .inl (cI, 8192, .inl sl)), (h8, .inl (cI, 11, .inl et))] (fun u : Int32 × (Nat → Int32) × Int32 × (Nat → Int32) => u = M_Md_give md sz bf p0 p1 ∧ (u.1 = 0 ∨ u.1 = 1)) (fun u => some (.int u.1)) (fun u => [(h0, .inr (7, [.int (u.2.1 0), .ref h1, .int u.2.2.1, .int (u.2.1 1), .int (u.2.1 2), .int (u.2.1 3), .int (u.2.1 4), .int (u.2.1 5), .int (u.2.1 6), .int (u.2.1 7), .int (u.2.1 8), .int (u.2.1 9), .int (u.2.1 10), .int (u.2.1 11), .int (u.2.1 12), .int fr, .int (u.2.1 13), .ref h2, .ref h3, .int (u.2.1 14), .int (u.2.1 15), .ref h4, .ref h5, .ref h6, .ref h7, .int (u.2.1 16), .int (u.2.1 17), .int (u.2.1 18), .int (u.2.1 19), .ref h8])), (h1, .inl (cB, 65536, .inl u.2.2.2)), (h2, .inl (cI, 512, .inl mp)), (h3, .inl (cI, 512, .inl ml)), (h4, .inl (cJ, 520, .inr (.inl mn))), (h5, .inl (cI, 41, .inl mf)), (h6, .inl (cI, 8192, .inl sp)), (h7, .inl (cI, 8192, .inl sl)), (h8, .inl (cI, 11, .inl et))]) (0) (0) := by
  refine Ct.intro (by decide +kernel) (Nat.le_of_ble_eq_true rfl) ?_
  intro p e s m below meth c hx hb hr hml hlocks hnm hown hK A hAe hA hS hP hD ls hl Q hQ
  have hown : s.vm.findClass "PictureFileModel" = some m.cls := hown
  have hH : Hold classes BW D (TY cB cI cJ) p s m c b_Md_give 5 "PictureFileModel" := ⟨bw_ok, hx, hb, hml, hown, hK⟩
  have hw : ∀ {w : Cond}, w ∈ BW → w.before ([.ref h0, .long p0, .int p1] : List Value).toArray s = true := fun h => Wd.at bw_ok hK.2 h
  have hl : lv_has ls 5 [(0, .ref h0), (1, .long p0), (3, .int p1)] := hl
  unfold G_Md_give at hG
  refine lv_aload_n hx hb d_Md_give_0 rfl (lv_at hl 0 rfl) ?_
  refine lv_iconst (v := 0) hx hb d_Md_give_1 (by decide) ?_
  refine va_put (D := D) (ci := 7) (v := .int 0) (ty := .int) (C := R_Md) (T := F_Md) (N := 30) hx hb (kl_Md hK.2) (fun _ h => h) t_Md t_Md_ok n_Md hown hK.1 hP hD hS 0 rfl rfl 0 (by decide) (hw kw_310) (fun _ h9 => h9) rfl (t_Md_ok 0 (by decide)) rfl rfl (Nat.le_of_ble_eq_true rfl) d_Md_give_2 (fun H locs hP hD hS => ?_)
  have hP : va_P D classes [(h0, .inr (7, [.int 0, .ref h1, .int sz, .int (md 1), .int (md 2), .int (md 3), .int (md 4), .int (md 5), .int (md 6), .int (md 7), .int (md 8), .int (md 9), .int (md 10), .int (md 11), .int (md 12), .int fr, .int (md 13), .ref h2, .ref h3, .int (md 14), .int (md 15), .ref h4, .ref h5, .ref h6, .ref h7, .int (md 16), .int (md 17), .int (md 18), .int (md 19), .ref h8])), (h1, .inl (cB, 65536, .inl bf)), (h2, .inl (cI, 512, .inl mp)), (h3, .inl (cI, 512, .inl ml)), (h4, .inl (cJ, 520, .inr (.inl mn))), (h5, .inl (cI, 41, .inl mf)), (h6, .inl (cI, 8192, .inl sp)), (h7, .inl (cI, 8192, .inl sl)), (h8, .inl (cI, 11, .inl et))] H := hP
  have hD : va_D A [(h0, .inr (7, [.int 0, .ref h1, .int sz, .int (md 1), .int (md 2), .int (md 3), .int (md 4), .int (md 5), .int (md 6), .int (md 7), .int (md 8), .int (md 9), .int (md 10), .int (md 11), .int (md 12), .int fr, .int (md 13), .ref h2, .ref h3, .int (md 14), .int (md 15), .ref h4, .ref h5, .ref h6, .ref h7, .int (md 16), .int (md 17), .int (md 18), .int (md 19), .ref h8])), (h1, .inl (cB, 65536, .inl bf)), (h2, .inl (cI, 512, .inl mp)), (h3, .inl (cI, 512, .inl ml)), (h4, .inl (cJ, 520, .inr (.inl mn))), (h5, .inl (cI, 41, .inl mf)), (h6, .inl (cI, 8192, .inl sp)), (h7, .inl (cI, 8192, .inl sl)), (h8, .inl (cI, 11, .inl et))] := hD
  refine lv_aload_n hx hb d_Md_give_5 rfl (lv_at hl 0 rfl) ?_
  refine va_get (D := D) (ci := 7) (C := R_Md) (T := F_Md) (N := 30) hx hb (kl_Md hK.2) (fun _ h => h) hown hK.1 hP 0 rfl rfl 3 (by decide) (hw kw_327) (fun _ h9 => h9) rfl d_Md_give_6 ?_
  refine lv_if_ne (tgt := 34) hx hb d_Md_give_9 (by decide) (fun c_1 => ?_) (fun c_1 => ?_)
  · replace hG := gp_neg c_1 hG
    refine lv_iconst (v := 0) hx hb d_Md_give_34 (by decide) ?_
    have ef : M_Md_give md sz bf p0 p1 = (0, (upd md 0 0), sz, bf) := by unfold M_Md_give; (try dsimp only); rw [if_neg c_1]
    exact ct_iret hx hb hr (rfl) hlocks d_Md_give_35 ⟨Nat.zero_le _, Nat.zero_le _⟩ hQ hAe hS (0, (upd md 0 0), sz, bf) rfl ⟨ef.symm, (Or.inl rfl)⟩ (hP.sub [0, 1, 2, 3, 4, 5, 6, 7, 8] rfl) (hD.sub [0, 1, 2, 3, 4, 5, 6, 7, 8] rfl rfl)
  · replace hG := gp_pos c_1 hG
    refine lv_iload_n hx hb d_Md_give_12 rfl (lv_at hl 2 rfl) ?_
    refine lv_iconst (v := 1) hx hb d_Md_give_13 (by decide) ?_
    refine lv_icmp_lt (tgt := 34) hx hb d_Md_give_14 (by decide) (fun c_2 => ?_) (fun c_2 => ?_)
    · replace hG := gp_pos c_2 hG
      refine lv_iconst (v := 0) hx hb d_Md_give_34 (by decide) ?_
      have ef : M_Md_give md sz bf p0 p1 = (0, (upd md 0 0), sz, bf) := by unfold M_Md_give; (try dsimp only); rw [if_pos c_1]; rw [if_pos c_2]
      exact ct_iret hx hb hr (rfl) hlocks d_Md_give_35 ⟨Nat.zero_le _, Nat.zero_le _⟩ hQ hAe hS (0, (upd md 0 0), sz, bf) rfl ⟨ef.symm, (Or.inl rfl)⟩ (hP.sub [0, 1, 2, 3, 4, 5, 6, 7, 8] rfl) (hD.sub [0, 1, 2, 3, 4, 5, 6, 7, 8] rfl rfl)
    · replace hG := gp_neg c_2 hG
      refine lv_iload_n hx hb d_Md_give_17 rfl (lv_at hl 2 rfl) ?_
      refine lv_bipush (v := 8) hx hb d_Md_give_18 (by decide) ?_
      refine lv_icmp_gt (tgt := 34) hx hb d_Md_give_20 (by decide) (fun c_3 => ?_) (fun c_3 => ?_)
      · replace hG := gp_pos c_3 hG
        refine lv_iconst (v := 0) hx hb d_Md_give_34 (by decide) ?_
        have ef : M_Md_give md sz bf p0 p1 = (0, (upd md 0 0), sz, bf) := by unfold M_Md_give; (try dsimp only); rw [if_pos c_1]; rw [if_neg c_2]; rw [if_pos c_3]
        exact ct_iret hx hb hr (rfl) hlocks d_Md_give_35 ⟨Nat.zero_le _, Nat.zero_le _⟩ hQ hAe hS (0, (upd md 0 0), sz, bf) rfl ⟨ef.symm, (Or.inl rfl)⟩ (hP.sub [0, 1, 2, 3, 4, 5, 6, 7, 8] rfl) (hD.sub [0, 1, 2, 3, 4, 5, 6, 7, 8] rfl rfl)
      · replace hG := gp_neg c_3 hG
        refine lv_aload_n hx hb d_Md_give_23 rfl (lv_at hl 0 rfl) ?_
        refine va_get (D := D) (ci := 7) (C := R_Md) (T := F_Md) (N := 30) hx hb (kl_Md hK.2) (fun _ h => h) hown hK.1 hP 0 rfl rfl 2 (by decide) (hw kw_312) (fun _ h9 => h9) rfl d_Md_give_24 ?_
        refine lv_iload_n hx hb d_Md_give_27 rfl (lv_at hl 2 rfl) ?_
        refine lv_iadd hx hb d_Md_give_28 ?_
        refine lv_ldc (v := 65536) hx hb hown (hw kw_340) d_Md_give_29 ?_
        refine lv_icmp_le (tgt := 36) hx hb d_Md_give_31 (by decide) (fun c_4 => ?_) (fun c_4 => ?_)
        · replace hG := gp_pos c_4 hG
          refine lv_iload_n hx hb d_Md_give_36 rfl (lv_at hl 2 rfl) ?_
          refine lv_iconst (v := 1) hx hb d_Md_give_37 (by decide) ?_
          refine lv_isub hx hb d_Md_give_38 ?_
          refine lv_topi (fun y1 e1 => ?_)
          replace hG := hG y1 e1
          refine lv_istore (lv' := [(4, .int y1), (0, .ref h0), (1, .long p0), (3, .int p1)]) hx hb d_Md_give_39 hl (by decide) rfl (fun ls hl => ?_)
          have LP41 : ∀ (n : Nat) (v4 : Int32) (szL : Int32) (bfL : (Nat → Int32)) (H : Heap) (locs : List Loc) (ls : Array Slot), GL_Md_give md p0 n v4 szL bfL → M_Md_give md sz bf p0 p1 = L_Md_give md p0 n v4 szL bfL → va_P D classes [(h0, .inr (7, [.int 0, .ref h1, .int szL, .int (md 1), .int (md 2), .int (md 3), .int (md 4), .int (md 5), .int (md 6), .int (md 7), .int (md 8), .int (md 9), .int (md 10), .int (md 11), .int (md 12), .int fr, .int (md 13), .ref h2, .ref h3, .int (md 14), .int (md 15), .ref h4, .ref h5, .ref h6, .ref h7, .int (md 16), .int (md 17), .int (md 18), .int (md 19), .ref h8])), (h1, .inl (cB, 65536, .inl bfL)), (h2, .inl (cI, 512, .inl mp)), (h3, .inl (cI, 512, .inl ml)), (h4, .inl (cJ, 520, .inr (.inl mn))), (h5, .inl (cI, 41, .inl mf)), (h6, .inl (cI, 8192, .inl sp)), (h7, .inl (cI, 8192, .inl sl)), (h8, .inl (cI, 11, .inl et))] H → va_D A [(h0, .inr (7, [.int 0, .ref h1, .int szL, .int (md 1), .int (md 2), .int (md 3), .int (md 4), .int (md 5), .int (md 6), .int (md 7), .int (md 8), .int (md 9), .int (md 10), .int (md 11), .int (md 12), .int fr, .int (md 13), .ref h2, .ref h3, .int (md 14), .int (md 15), .ref h4, .ref h5, .ref h6, .ref h7, .int (md 16), .int (md 17), .int (md 18), .int (md 19), .ref h8])), (h1, .inl (cB, 65536, .inl bfL)), (h2, .inl (cI, 512, .inl mp)), (h3, .inl (cI, 512, .inl ml)), (h4, .inl (cJ, 520, .inr (.inl mn))), (h5, .inl (cI, 41, .inl mf)), (h6, .inl (cI, 8192, .inl sp)), (h7, .inl (cI, 8192, .inl sl)), (h8, .inl (cI, 11, .inl et))] → va_S A s.heap H locs → lv_has ls 5 [(0, .ref h0), (1, .long p0), (3, .int p1), (4, .int v4)] → W p l e ({ frames := 1, cells := 0, slots := 0, locals := 21 } : Room) s m ([.ref h0, .long p0, .int p1] : List Value).toArray below meth c H locs 0 0 Q (F0 m 41 ls []) := by
            intro n
            induction n with
            | zero => intro v4 szL bfL H locs ls hG hM hP hD hS hl; rw [GL_Md_give] at hG; exact hG.elim
            | succ n ih =>
              intro v4 szL bfL H locs ls hG hM hP hD hS hl
              rw [GL_Md_give] at hG
              refine lv_iload hx hb d_Md_give_41 (lv_at hl 3 rfl) ?_
              refine lv_if_lt (tgt := 68) hx hb d_Md_give_43 (by decide) (fun c_5 => ?_) (fun c_5 => ?_)
              · replace hG := gp_pos c_5 hG
                refine lv_iconst (v := 1) hx hb d_Md_give_68 (by decide) ?_
                have ef : M_Md_give md sz bf p0 p1 = (1, (upd md 0 0), szL, bfL) := by rw [hM, L_Md_give]; (try dsimp only); rw [if_pos c_5]
                exact ct_iret hx hb hr (rfl) hlocks d_Md_give_69 ⟨Nat.zero_le _, Nat.zero_le _⟩ hQ hAe hS (1, (upd md 0 0), szL, bfL) rfl ⟨ef.symm, (Or.inr rfl)⟩ (hP.sub [0, 1, 2, 3, 4, 5, 6, 7, 8] rfl) (hD.sub [0, 1, 2, 3, 4, 5, 6, 7, 8] rfl rfl)
              · replace hG := gp_neg c_5 hG
                refine lv_aload_n hx hb d_Md_give_46 rfl (lv_at hl 0 rfl) ?_
                refine lv_lload_n hx hb d_Md_give_47 rfl (lv_at hl 1 rfl) ?_
                refine lv_bipush (v := 8) hx hb d_Md_give_48 (by decide) ?_
                refine lv_iload hx hb d_Md_give_50 (lv_at hl 3 rfl) ?_
                refine lv_imul hx hb d_Md_give_52 ?_
                refine lv_lshr hx hb d_Md_give_53 rfl ?_
                refine lv_ldc2 (v := 255) hx hb hown (hw kw_341) d_Md_give_54 ?_
                refine lv_land hx hb d_Md_give_57 ?_
                refine lv_l2i hx hb d_Md_give_58 rfl ?_
                obtain ⟨g_11, hG⟩ := hG
                refine ct_fin (wr := []) (ct_runV (n := 1) (C := R_Md) (b := h0) (As := [.int (((p0 >>> ((8 * v4).toInt64 &&& 63)) &&& 255).toInt32)]) (rest := []) hH (c_Md_one h0 h1 h2 h3 h4 h5 h6 h7 h8 (upd md 0 0) szL fr bfL mp ml mn mf sp sl et (((p0 >>> ((8 * v4).toInt64 &&& 63)) &&& 255).toInt32) g_11 _) ⟨cal_Md_one, ⟨Nat.le_of_ble_eq_true rfl, Nat.le_of_ble_eq_true rfl⟩, (Nat.le_of_ble_eq_true rfl), (Nat.le_of_ble_eq_true rfl)⟩ kw_314 kw_315 kw_316 kw_317 kw_318 (va_recv hK.1 hP (ci := 7) (q0 := 0) rfl rfl) (hP.sub (ws' := [(h0, .inr (7, [.int 0, .ref h1, .int szL, .int (md 1), .int (md 2), .int (md 3), .int (md 4), .int (md 5), .int (md 6), .int (md 7), .int (md 8), .int (md 9), .int (md 10), .int (md 11), .int (md 12), .int fr, .int (md 13), .ref h2, .ref h3, .int (md 14), .int (md 15), .ref h4, .ref h5, .ref h6, .ref h7, .int (md 16), .int (md 17), .int (md 18), .int (md 19), .ref h8])), (h1, .inl (cB, 65536, .inl bfL)), (h2, .inl (cI, 512, .inl mp)), (h3, .inl (cI, 512, .inl ml)), (h4, .inl (cJ, 520, .inr (.inl mn))), (h5, .inl (cI, 41, .inl mf)), (h6, .inl (cI, 8192, .inl sp)), (h7, .inl (cI, 8192, .inl sl)), (h8, .inl (cI, 11, .inl et))]) [0, 1, 2, 3, 4, 5, 6, 7, 8] rfl) (hD.sub (ws' := [(h0, .inr (7, [.int 0, .ref h1, .int szL, .int (md 1), .int (md 2), .int (md 3), .int (md 4), .int (md 5), .int (md 6), .int (md 7), .int (md 8), .int (md 9), .int (md 10), .int (md 11), .int (md 12), .int fr, .int (md 13), .ref h2, .ref h3, .int (md 14), .int (md 15), .ref h4, .ref h5, .ref h6, .ref h7, .int (md 16), .int (md 17), .int (md 18), .int (md 19), .ref h8])), (h1, .inl (cB, 65536, .inl bfL)), (h2, .inl (cI, 512, .inl mp)), (h3, .inl (cI, 512, .inl ml)), (h4, .inl (cJ, 520, .inr (.inl mn))), (h5, .inl (cI, 41, .inl mf)), (h6, .inl (cI, 8192, .inl sp)), (h7, .inl (cI, 8192, .inl sl)), (h8, .inl (cI, 11, .inl et))]) [0, 1, 2, 3, 4, 5, 6, 7, 8] rfl rfl) rfl hl.1 (Nat.le_of_ble_eq_true rfl) d_Md_give_59) hP hD hS hA [0, 1, 2, 3, 4, 5, 6, 7, 8] [] rfl rfl rfl (by decide) (fun u H locs hp hP hD hS => ?_)
                obtain ⟨x2, rfl⟩ : ∃ z, z = u := ⟨_, rfl⟩
                have e2 := hp
                try dsimp only at e2
                have hP : va_P D classes [(h0, .inr (7, [.int 0, .ref h1, .int x2.1, .int (md 1), .int (md 2), .int (md 3), .int (md 4), .int (md 5), .int (md 6), .int (md 7), .int (md 8), .int (md 9), .int (md 10), .int (md 11), .int (md 12), .int fr, .int (md 13), .ref h2, .ref h3, .int (md 14), .int (md 15), .ref h4, .ref h5, .ref h6, .ref h7, .int (md 16), .int (md 17), .int (md 18), .int (md 19), .ref h8])), (h1, .inl (cB, 65536, .inl x2.2)), (h2, .inl (cI, 512, .inl mp)), (h3, .inl (cI, 512, .inl ml)), (h4, .inl (cJ, 520, .inr (.inl mn))), (h5, .inl (cI, 41, .inl mf)), (h6, .inl (cI, 8192, .inl sp)), (h7, .inl (cI, 8192, .inl sl)), (h8, .inl (cI, 11, .inl et))] H := hP
                have hD : va_D A [(h0, .inr (7, [.int 0, .ref h1, .int x2.1, .int (md 1), .int (md 2), .int (md 3), .int (md 4), .int (md 5), .int (md 6), .int (md 7), .int (md 8), .int (md 9), .int (md 10), .int (md 11), .int (md 12), .int fr, .int (md 13), .ref h2, .ref h3, .int (md 14), .int (md 15), .ref h4, .ref h5, .ref h6, .ref h7, .int (md 16), .int (md 17), .int (md 18), .int (md 19), .ref h8])), (h1, .inl (cB, 65536, .inl x2.2)), (h2, .inl (cI, 512, .inl mp)), (h3, .inl (cI, 512, .inl ml)), (h4, .inl (cJ, 520, .inr (.inl mn))), (h5, .inl (cI, 41, .inl mf)), (h6, .inl (cI, 8192, .inl sp)), (h7, .inl (cI, 8192, .inl sl)), (h8, .inl (cI, 11, .inl et))] := hD
                replace hG := hG x2 e2
                refine W.eq (g2 := F0 m 62 ls []) rfl ?_
                refine lv_iinc (v := (v4 + (-1))) (lv' := [(4, .int (v4 + (-1))), (0, .ref h0), (1, .long p0), (3, .int p1)]) hx hb d_Md_give_62 hl (k := 3) rfl rfl (by decide) rfl (fun ls hl => ?_)
                refine lv_goto (tgt := 41) hx hb d_Md_give_65 (by decide) ?_
                exact ih (v4 + (-1)) x2.1 x2.2 H locs ls (hG) (by rw [hM, L_Md_give]; (try dsimp only); rw [if_neg c_5]; (try rw [← e2]))  (hP.sub [0, 1, 2, 3, 4, 5, 6, 7, 8] rfl) (hD.sub [0, 1, 2, 3, 4, 5, 6, 7, 8] rfl rfl) hS (lv_sub hl [1, 2, 3, 0] rfl)
          exact LP41 ((y1.toInt + 1).toNat + 1) y1 sz bf _ _ _ hG (by unfold M_Md_give; (try dsimp only); rw [if_pos c_1]; rw [if_neg c_2]; rw [if_neg c_3]; rw [if_pos c_4]; (try rw [← e1]))  (hP.sub [0, 1, 2, 3, 4, 5, 6, 7, 8] rfl) (hD.sub [0, 1, 2, 3, 4, 5, 6, 7, 8] rfl rfl) hS (lv_sub hl [1, 2, 3, 0] rfl)
        · replace hG := gp_neg c_4 hG
          refine lv_iconst (v := 0) hx hb d_Md_give_34 (by decide) ?_
          have ef : M_Md_give md sz bf p0 p1 = (0, (upd md 0 0), sz, bf) := by unfold M_Md_give; (try dsimp only); rw [if_pos c_1]; rw [if_neg c_2]; rw [if_neg c_3]; rw [if_neg c_4]
          exact ct_iret hx hb hr (rfl) hlocks d_Md_give_35 ⟨Nat.zero_le _, Nat.zero_le _⟩ hQ hAe hS (0, (upd md 0 0), sz, bf) rfl ⟨ef.symm, (Or.inl rfl)⟩ (hP.sub [0, 1, 2, 3, 4, 5, 6, 7, 8] rfl) (hD.sub [0, 1, 2, 3, 4, 5, 6, 7, 8] rfl rfl)
set_option maxHeartbeats 4000000 in
set_option maxRecDepth 100000 in
theorem c_Md_poke {l : Launch} {D : va_G} {cB cI cJ : ClassId} (h0 h1 h2 h3 h4 h5 h6 h7 h8 : Nat) (md : Nat → Int32) (sz : Int32) (fr : Int32) (bf : Nat → Int32) (mp : Nat → Int32) (ml : Nat → Int32) (mn : Nat → Int64) (mf : Nat → Int32) (sp : Nat → Int32) (sl : Nat → Int32) (et : Nat → Int32) (p0 : Int32) (p1 : Int32) (hG : G_Md_poke md sz p0) : Ct classes BW l D (TY cB cI cJ) y_Md_poke b_Md_poke 3 (some .boolean) ({ frames := 0, cells := 0, slots := 0, locals := 0 } : Room) [.ref h0, .int p0, .int p1] [(h0, .inr (7, [.int (md 0), .ref h1, .int sz, .int (md 1), .int (md 2), .int (md 3), .int (md 4), .int (md 5), .int (md 6), .int (md 7), .int (md 8), .int (md 9), .int (md 10), .int (md 11), .int (md 12), .int fr, .int (md 13), .ref h2, .ref h3, .int (md 14), .int (md 15), .ref h4, .ref h5, .ref h6, .ref h7, .int (md 16), .int (md 17), .int (md 18), .int (md 19), .ref h8])), (h1, .inl (cB, 65536, .inl bf)), (h2, .inl (cI, 512, .inl mp)), (h3, .inl (cI, 512, .inl ml)), (h4, .inl (cJ, 520, .inr (.inl mn))), (h5, .inl (cI, 41, .inl mf)), (h6, .inl (cI, 8192, .inl sp)), (h7, .inl (cI, 8192, .inl sl)), (h8, .inl (cI, 11, .inl et))] (fun u : Int32 × (Nat → Int32) × (Nat → Int32) => u = M_Md_poke md sz bf p0 p1 ∧ (u.1 = 0 ∨ u.1 = 1)) (fun u => some (.int u.1)) (fun u => [(h0, .inr (7, [.int (u.2.1 0), .ref h1, .int sz, .int (u.2.1 1), .int (u.2.1 2), .int (u.2.1 3), .int (u.2.1 4), .int (u.2.1 5), .int (u.2.1 6), .int (u.2.1 7), .int (u.2.1 8), .int (u.2.1 9), .int (u.2.1 10), .int (u.2.1 11), .int (u.2.1 12), .int fr, .int (u.2.1 13), .ref h2, .ref h3, .int (u.2.1 14), .int (u.2.1 15), .ref h4, .ref h5, .ref h6, .ref h7, .int (u.2.1 16), .int (u.2.1 17), .int (u.2.1 18), .int (u.2.1 19), .ref h8])), (h1, .inl (cB, 65536, .inl u.2.2)), (h2, .inl (cI, 512, .inl mp)), (h3, .inl (cI, 512, .inl ml)), (h4, .inl (cJ, 520, .inr (.inl mn))), (h5, .inl (cI, 41, .inl mf)), (h6, .inl (cI, 8192, .inl sp)), (h7, .inl (cI, 8192, .inl sl)), (h8, .inl (cI, 11, .inl et))]) (0) (0) := by
  refine Ct.intro (by decide +kernel) (Nat.le_of_ble_eq_true rfl) ?_
  intro p e s m below meth c hx hb hr hml hlocks hnm hown hK A hAe hA hS hP hD ls hl Q hQ
  have hown : s.vm.findClass "PictureFileModel" = some m.cls := hown
  have hH : Hold classes BW D (TY cB cI cJ) p s m c b_Md_poke 3 "PictureFileModel" := ⟨bw_ok, hx, hb, hml, hown, hK⟩
  have hw : ∀ {w : Cond}, w ∈ BW → w.before ([.ref h0, .int p0, .int p1] : List Value).toArray s = true := fun h => Wd.at bw_ok hK.2 h
  have hl : lv_has ls 3 [(0, .ref h0), (1, .int p0), (2, .int p1)] := hl
  unfold G_Md_poke at hG
  refine lv_aload_n hx hb d_Md_poke_0 rfl (lv_at hl 0 rfl) ?_
  refine lv_iconst (v := 0) hx hb d_Md_poke_1 (by decide) ?_
  refine va_put (D := D) (ci := 7) (v := .int 0) (ty := .int) (C := R_Md) (T := F_Md) (N := 30) hx hb (kl_Md hK.2) (fun _ h => h) t_Md t_Md_ok n_Md hown hK.1 hP hD hS 0 rfl rfl 0 (by decide) (hw kw_310) (fun _ h9 => h9) rfl (t_Md_ok 0 (by decide)) rfl rfl (Nat.le_of_ble_eq_true rfl) d_Md_poke_2 (fun H locs hP hD hS => ?_)
  have hP : va_P D classes [(h0, .inr (7, [.int 0, .ref h1, .int sz, .int (md 1), .int (md 2), .int (md 3), .int (md 4), .int (md 5), .int (md 6), .int (md 7), .int (md 8), .int (md 9), .int (md 10), .int (md 11), .int (md 12), .int fr, .int (md 13), .ref h2, .ref h3, .int (md 14), .int (md 15), .ref h4, .ref h5, .ref h6, .ref h7, .int (md 16), .int (md 17), .int (md 18), .int (md 19), .ref h8])), (h1, .inl (cB, 65536, .inl bf)), (h2, .inl (cI, 512, .inl mp)), (h3, .inl (cI, 512, .inl ml)), (h4, .inl (cJ, 520, .inr (.inl mn))), (h5, .inl (cI, 41, .inl mf)), (h6, .inl (cI, 8192, .inl sp)), (h7, .inl (cI, 8192, .inl sl)), (h8, .inl (cI, 11, .inl et))] H := hP
  have hD : va_D A [(h0, .inr (7, [.int 0, .ref h1, .int sz, .int (md 1), .int (md 2), .int (md 3), .int (md 4), .int (md 5), .int (md 6), .int (md 7), .int (md 8), .int (md 9), .int (md 10), .int (md 11), .int (md 12), .int fr, .int (md 13), .ref h2, .ref h3, .int (md 14), .int (md 15), .ref h4, .ref h5, .ref h6, .ref h7, .int (md 16), .int (md 17), .int (md 18), .int (md 19), .ref h8])), (h1, .inl (cB, 65536, .inl bf)), (h2, .inl (cI, 512, .inl mp)), (h3, .inl (cI, 512, .inl ml)), (h4, .inl (cJ, 520, .inr (.inl mn))), (h5, .inl (cI, 41, .inl mf)), (h6, .inl (cI, 8192, .inl sp)), (h7, .inl (cI, 8192, .inl sl)), (h8, .inl (cI, 11, .inl et))] := hD
  refine lv_aload_n hx hb d_Md_poke_5 rfl (lv_at hl 0 rfl) ?_
  refine va_get (D := D) (ci := 7) (C := R_Md) (T := F_Md) (N := 30) hx hb (kl_Md hK.2) (fun _ h => h) hown hK.1 hP 0 rfl rfl 3 (by decide) (hw kw_327) (fun _ h9 => h9) rfl d_Md_poke_6 ?_
  refine lv_if_ne (tgt := 24) hx hb d_Md_poke_9 (by decide) (fun c_1 => ?_) (fun c_1 => ?_)
  · replace hG := gp_neg c_1 hG
    refine lv_iconst (v := 0) hx hb d_Md_poke_24 (by decide) ?_
    have ef : M_Md_poke md sz bf p0 p1 = (0, (upd md 0 0), bf) := by unfold M_Md_poke; (try dsimp only); rw [if_neg c_1]
    exact ct_iret hx hb hr (rfl) hlocks d_Md_poke_25 ⟨Nat.zero_le _, Nat.zero_le _⟩ hQ hAe hS (0, (upd md 0 0), bf) rfl ⟨ef.symm, (Or.inl rfl)⟩ (hP.sub [0, 1, 2, 3, 4, 5, 6, 7, 8] rfl) (hD.sub [0, 1, 2, 3, 4, 5, 6, 7, 8] rfl rfl)
  · replace hG := gp_pos c_1 hG
    refine lv_iload_n hx hb d_Md_poke_12 rfl (lv_at hl 1 rfl) ?_
    refine lv_if_lt (tgt := 24) hx hb d_Md_poke_13 (by decide) (fun c_2 => ?_) (fun c_2 => ?_)
    · replace hG := gp_pos c_2 hG
      refine lv_iconst (v := 0) hx hb d_Md_poke_24 (by decide) ?_
      have ef : M_Md_poke md sz bf p0 p1 = (0, (upd md 0 0), bf) := by unfold M_Md_poke; (try dsimp only); rw [if_pos c_1]; rw [if_pos c_2]
      exact ct_iret hx hb hr (rfl) hlocks d_Md_poke_25 ⟨Nat.zero_le _, Nat.zero_le _⟩ hQ hAe hS (0, (upd md 0 0), bf) rfl ⟨ef.symm, (Or.inl rfl)⟩ (hP.sub [0, 1, 2, 3, 4, 5, 6, 7, 8] rfl) (hD.sub [0, 1, 2, 3, 4, 5, 6, 7, 8] rfl rfl)
    · replace hG := gp_neg c_2 hG
      refine lv_iload_n hx hb d_Md_poke_16 rfl (lv_at hl 1 rfl) ?_
      refine lv_aload_n hx hb d_Md_poke_17 rfl (lv_at hl 0 rfl) ?_
      refine va_get (D := D) (ci := 7) (C := R_Md) (T := F_Md) (N := 30) hx hb (kl_Md hK.2) (fun _ h => h) hown hK.1 hP 0 rfl rfl 2 (by decide) (hw kw_312) (fun _ h9 => h9) rfl d_Md_poke_18 ?_
      refine lv_icmp_lt (tgt := 26) hx hb d_Md_poke_21 (by decide) (fun c_3 => ?_) (fun c_3 => ?_)
      · replace hG := gp_pos c_3 hG
        refine lv_aload_n hx hb d_Md_poke_26 rfl (lv_at hl 0 rfl) ?_
        refine va_get (D := D) (ci := 7) (C := R_Md) (T := F_Md) (N := 30) hx hb (kl_Md hK.2) (fun _ h => h) hown hK.1 hP 0 rfl rfl 1 (by decide) (hw kw_311) (fun _ h9 => h9) rfl d_Md_poke_27 ?_
        refine lv_iload_n hx hb d_Md_poke_30 rfl (lv_at hl 1 rfl) ?_
        refine lv_iload_n hx hb d_Md_poke_31 rfl (lv_at hl 2 rfl) ?_
        refine lv_i2b hx hb d_Md_poke_32 rfl ?_
        have g_6 := hG
        refine va_bast hx hb hK.1 hP hD hS 1 0 rfl rfl (g_6) d_Md_poke_33 (fun H locs hP hD hS => ?_)
        have hP : va_P D classes [(h0, .inr (7, [.int 0, .ref h1, .int sz, .int (md 1), .int (md 2), .int (md 3), .int (md 4), .int (md 5), .int (md 6), .int (md 7), .int (md 8), .int (md 9), .int (md 10), .int (md 11), .int (md 12), .int fr, .int (md 13), .ref h2, .ref h3, .int (md 14), .int (md 15), .ref h4, .ref h5, .ref h6, .ref h7, .int (md 16), .int (md 17), .int (md 18), .int (md 19), .ref h8])), (h1, .inl (cB, 65536, .inl (upd bf p0.toNatClampNeg (vp_nar .byte p1.toInt8.toInt32)))), (h2, .inl (cI, 512, .inl mp)), (h3, .inl (cI, 512, .inl ml)), (h4, .inl (cJ, 520, .inr (.inl mn))), (h5, .inl (cI, 41, .inl mf)), (h6, .inl (cI, 8192, .inl sp)), (h7, .inl (cI, 8192, .inl sl)), (h8, .inl (cI, 11, .inl et))] H := hP
        have hD : va_D A [(h0, .inr (7, [.int 0, .ref h1, .int sz, .int (md 1), .int (md 2), .int (md 3), .int (md 4), .int (md 5), .int (md 6), .int (md 7), .int (md 8), .int (md 9), .int (md 10), .int (md 11), .int (md 12), .int fr, .int (md 13), .ref h2, .ref h3, .int (md 14), .int (md 15), .ref h4, .ref h5, .ref h6, .ref h7, .int (md 16), .int (md 17), .int (md 18), .int (md 19), .ref h8])), (h1, .inl (cB, 65536, .inl (upd bf p0.toNatClampNeg (vp_nar .byte p1.toInt8.toInt32)))), (h2, .inl (cI, 512, .inl mp)), (h3, .inl (cI, 512, .inl ml)), (h4, .inl (cJ, 520, .inr (.inl mn))), (h5, .inl (cI, 41, .inl mf)), (h6, .inl (cI, 8192, .inl sp)), (h7, .inl (cI, 8192, .inl sl)), (h8, .inl (cI, 11, .inl et))] := hD
        refine lv_iconst (v := 1) hx hb d_Md_poke_34 (by decide) ?_
        have ef : M_Md_poke md sz bf p0 p1 = (1, (upd md 0 0), (upd bf p0.toNatClampNeg (vp_nar .byte p1.toInt8.toInt32))) := by unfold M_Md_poke; (try dsimp only); rw [if_pos c_1]; rw [if_neg c_2]; rw [if_pos c_3]
        exact ct_iret hx hb hr (rfl) hlocks d_Md_poke_35 ⟨Nat.zero_le _, Nat.zero_le _⟩ hQ hAe hS (1, (upd md 0 0), (upd bf p0.toNatClampNeg (vp_nar .byte p1.toInt8.toInt32))) rfl ⟨ef.symm, (Or.inr rfl)⟩ (hP.sub [0, 1, 2, 3, 4, 5, 6, 7, 8] rfl) (hD.sub [0, 1, 2, 3, 4, 5, 6, 7, 8] rfl rfl)
      · replace hG := gp_neg c_3 hG
        refine lv_iconst (v := 0) hx hb d_Md_poke_24 (by decide) ?_
        have ef : M_Md_poke md sz bf p0 p1 = (0, (upd md 0 0), bf) := by unfold M_Md_poke; (try dsimp only); rw [if_pos c_1]; rw [if_neg c_2]; rw [if_neg c_3]
        exact ct_iret hx hb hr (rfl) hlocks d_Md_poke_25 ⟨Nat.zero_le _, Nat.zero_le _⟩ hQ hAe hS (0, (upd md 0 0), bf) rfl ⟨ef.symm, (Or.inl rfl)⟩ (hP.sub [0, 1, 2, 3, 4, 5, 6, 7, 8] rfl) (hD.sub [0, 1, 2, 3, 4, 5, 6, 7, 8] rfl rfl)
set_option maxHeartbeats 4000000 in
set_option maxRecDepth 100000 in
theorem c_Md_cut {l : Launch} {D : va_G} {cB cI cJ : ClassId} (h0 h1 h2 h3 h4 h5 h6 h7 h8 : Nat) (md : Nat → Int32) (sz : Int32) (fr : Int32) (bf : Nat → Int32) (mp : Nat → Int32) (ml : Nat → Int32) (mn : Nat → Int64) (mf : Nat → Int32) (sp : Nat → Int32) (sl : Nat → Int32) (et : Nat → Int32) (p0 : Int32) : Ct classes BW l D (TY cB cI cJ) y_Md_cut b_Md_cut 2 (some .boolean) ({ frames := 0, cells := 0, slots := 0, locals := 0 } : Room) [.ref h0, .int p0] [(h0, .inr (7, [.int (md 0), .ref h1, .int sz, .int (md 1), .int (md 2), .int (md 3), .int (md 4), .int (md 5), .int (md 6), .int (md 7), .int (md 8), .int (md 9), .int (md 10), .int (md 11), .int (md 12), .int fr, .int (md 13), .ref h2, .ref h3, .int (md 14), .int (md 15), .ref h4, .ref h5, .ref h6, .ref h7, .int (md 16), .int (md 17), .int (md 18), .int (md 19), .ref h8])), (h1, .inl (cB, 65536, .inl bf)), (h2, .inl (cI, 512, .inl mp)), (h3, .inl (cI, 512, .inl ml)), (h4, .inl (cJ, 520, .inr (.inl mn))), (h5, .inl (cI, 41, .inl mf)), (h6, .inl (cI, 8192, .inl sp)), (h7, .inl (cI, 8192, .inl sl)), (h8, .inl (cI, 11, .inl et))] (fun u : Int32 × (Nat → Int32) × Int32 => u = M_Md_cut md sz p0 ∧ (u.1 = 0 ∨ u.1 = 1)) (fun u => some (.int u.1)) (fun u => [(h0, .inr (7, [.int (u.2.1 0), .ref h1, .int u.2.2, .int (u.2.1 1), .int (u.2.1 2), .int (u.2.1 3), .int (u.2.1 4), .int (u.2.1 5), .int (u.2.1 6), .int (u.2.1 7), .int (u.2.1 8), .int (u.2.1 9), .int (u.2.1 10), .int (u.2.1 11), .int (u.2.1 12), .int fr, .int (u.2.1 13), .ref h2, .ref h3, .int (u.2.1 14), .int (u.2.1 15), .ref h4, .ref h5, .ref h6, .ref h7, .int (u.2.1 16), .int (u.2.1 17), .int (u.2.1 18), .int (u.2.1 19), .ref h8])), (h1, .inl (cB, 65536, .inl bf)), (h2, .inl (cI, 512, .inl mp)), (h3, .inl (cI, 512, .inl ml)), (h4, .inl (cJ, 520, .inr (.inl mn))), (h5, .inl (cI, 41, .inl mf)), (h6, .inl (cI, 8192, .inl sp)), (h7, .inl (cI, 8192, .inl sl)), (h8, .inl (cI, 11, .inl et))]) (0) (0) := by
  refine Ct.intro (by decide +kernel) (Nat.le_of_ble_eq_true rfl) ?_
  intro p e s m below meth c hx hb hr hml hlocks hnm hown hK A hAe hA hS hP hD ls hl Q hQ
  have hown : s.vm.findClass "PictureFileModel" = some m.cls := hown
  have hH : Hold classes BW D (TY cB cI cJ) p s m c b_Md_cut 2 "PictureFileModel" := ⟨bw_ok, hx, hb, hml, hown, hK⟩
  have hw : ∀ {w : Cond}, w ∈ BW → w.before ([.ref h0, .int p0] : List Value).toArray s = true := fun h => Wd.at bw_ok hK.2 h
  have hl : lv_has ls 2 [(0, .ref h0), (1, .int p0)] := hl
  refine lv_aload_n hx hb d_Md_cut_0 rfl (lv_at hl 0 rfl) ?_
  refine lv_iconst (v := 0) hx hb d_Md_cut_1 (by decide) ?_
  refine va_put (D := D) (ci := 7) (v := .int 0) (ty := .int) (C := R_Md) (T := F_Md) (N := 30) hx hb (kl_Md hK.2) (fun _ h => h) t_Md t_Md_ok n_Md hown hK.1 hP hD hS 0 rfl rfl 0 (by decide) (hw kw_310) (fun _ h9 => h9) rfl (t_Md_ok 0 (by decide)) rfl rfl (Nat.le_of_ble_eq_true rfl) d_Md_cut_2 (fun H locs hP hD hS => ?_)
  have hP : va_P D classes [(h0, .inr (7, [.int 0, .ref h1, .int sz, .int (md 1), .int (md 2), .int (md 3), .int (md 4), .int (md 5), .int (md 6), .int (md 7), .int (md 8), .int (md 9), .int (md 10), .int (md 11), .int (md 12), .int fr, .int (md 13), .ref h2, .ref h3, .int (md 14), .int (md 15), .ref h4, .ref h5, .ref h6, .ref h7, .int (md 16), .int (md 17), .int (md 18), .int (md 19), .ref h8])), (h1, .inl (cB, 65536, .inl bf)), (h2, .inl (cI, 512, .inl mp)), (h3, .inl (cI, 512, .inl ml)), (h4, .inl (cJ, 520, .inr (.inl mn))), (h5, .inl (cI, 41, .inl mf)), (h6, .inl (cI, 8192, .inl sp)), (h7, .inl (cI, 8192, .inl sl)), (h8, .inl (cI, 11, .inl et))] H := hP
  have hD : va_D A [(h0, .inr (7, [.int 0, .ref h1, .int sz, .int (md 1), .int (md 2), .int (md 3), .int (md 4), .int (md 5), .int (md 6), .int (md 7), .int (md 8), .int (md 9), .int (md 10), .int (md 11), .int (md 12), .int fr, .int (md 13), .ref h2, .ref h3, .int (md 14), .int (md 15), .ref h4, .ref h5, .ref h6, .ref h7, .int (md 16), .int (md 17), .int (md 18), .int (md 19), .ref h8])), (h1, .inl (cB, 65536, .inl bf)), (h2, .inl (cI, 512, .inl mp)), (h3, .inl (cI, 512, .inl ml)), (h4, .inl (cJ, 520, .inr (.inl mn))), (h5, .inl (cI, 41, .inl mf)), (h6, .inl (cI, 8192, .inl sp)), (h7, .inl (cI, 8192, .inl sl)), (h8, .inl (cI, 11, .inl et))] := hD
  refine lv_aload_n hx hb d_Md_cut_5 rfl (lv_at hl 0 rfl) ?_
  refine va_get (D := D) (ci := 7) (C := R_Md) (T := F_Md) (N := 30) hx hb (kl_Md hK.2) (fun _ h => h) hown hK.1 hP 0 rfl rfl 3 (by decide) (hw kw_327) (fun _ h9 => h9) rfl d_Md_cut_6 ?_
  refine lv_if_ne (tgt := 24) hx hb d_Md_cut_9 (by decide) (fun c_1 => ?_) (fun c_1 => ?_)
  · skip
    refine lv_iconst (v := 0) hx hb d_Md_cut_24 (by decide) ?_
    have ef : M_Md_cut md sz p0 = (0, (upd md 0 0), sz) := by unfold M_Md_cut; (try dsimp only); rw [if_neg c_1]
    exact ct_iret hx hb hr (rfl) hlocks d_Md_cut_25 ⟨Nat.zero_le _, Nat.zero_le _⟩ hQ hAe hS (0, (upd md 0 0), sz) rfl ⟨ef.symm, (Or.inl rfl)⟩ (hP.sub [0, 1, 2, 3, 4, 5, 6, 7, 8] rfl) (hD.sub [0, 1, 2, 3, 4, 5, 6, 7, 8] rfl rfl)
  · skip
    refine lv_iload_n hx hb d_Md_cut_12 rfl (lv_at hl 1 rfl) ?_
    refine lv_if_lt (tgt := 24) hx hb d_Md_cut_13 (by decide) (fun c_2 => ?_) (fun c_2 => ?_)
    · skip
      refine lv_iconst (v := 0) hx hb d_Md_cut_24 (by decide) ?_
      have ef : M_Md_cut md sz p0 = (0, (upd md 0 0), sz) := by unfold M_Md_cut; (try dsimp only); rw [if_pos c_1]; rw [if_pos c_2]
      exact ct_iret hx hb hr (rfl) hlocks d_Md_cut_25 ⟨Nat.zero_le _, Nat.zero_le _⟩ hQ hAe hS (0, (upd md 0 0), sz) rfl ⟨ef.symm, (Or.inl rfl)⟩ (hP.sub [0, 1, 2, 3, 4, 5, 6, 7, 8] rfl) (hD.sub [0, 1, 2, 3, 4, 5, 6, 7, 8] rfl rfl)
    · skip
      refine lv_iload_n hx hb d_Md_cut_16 rfl (lv_at hl 1 rfl) ?_
      refine lv_aload_n hx hb d_Md_cut_17 rfl (lv_at hl 0 rfl) ?_
      refine va_get (D := D) (ci := 7) (C := R_Md) (T := F_Md) (N := 30) hx hb (kl_Md hK.2) (fun _ h => h) hown hK.1 hP 0 rfl rfl 2 (by decide) (hw kw_312) (fun _ h9 => h9) rfl d_Md_cut_18 ?_
      refine lv_icmp_le (tgt := 26) hx hb d_Md_cut_21 (by decide) (fun c_3 => ?_) (fun c_3 => ?_)
      · skip
        refine lv_aload_n hx hb d_Md_cut_26 rfl (lv_at hl 0 rfl) ?_
        refine lv_iload_n hx hb d_Md_cut_27 rfl (lv_at hl 1 rfl) ?_
        refine va_put (D := D) (ci := 7) (v := .int p0) (ty := .int) (C := R_Md) (T := F_Md) (N := 30) hx hb (kl_Md hK.2) (fun _ h => h) t_Md t_Md_ok n_Md hown hK.1 hP hD hS 0 rfl rfl 2 (by decide) (hw kw_312) (fun _ h9 => h9) rfl (t_Md_ok 2 (by decide)) rfl rfl (Nat.le_of_ble_eq_true rfl) d_Md_cut_28 (fun H locs hP hD hS => ?_)
        have hP : va_P D classes [(h0, .inr (7, [.int 0, .ref h1, .int p0, .int (md 1), .int (md 2), .int (md 3), .int (md 4), .int (md 5), .int (md 6), .int (md 7), .int (md 8), .int (md 9), .int (md 10), .int (md 11), .int (md 12), .int fr, .int (md 13), .ref h2, .ref h3, .int (md 14), .int (md 15), .ref h4, .ref h5, .ref h6, .ref h7, .int (md 16), .int (md 17), .int (md 18), .int (md 19), .ref h8])), (h1, .inl (cB, 65536, .inl bf)), (h2, .inl (cI, 512, .inl mp)), (h3, .inl (cI, 512, .inl ml)), (h4, .inl (cJ, 520, .inr (.inl mn))), (h5, .inl (cI, 41, .inl mf)), (h6, .inl (cI, 8192, .inl sp)), (h7, .inl (cI, 8192, .inl sl)), (h8, .inl (cI, 11, .inl et))] H := hP
        have hD : va_D A [(h0, .inr (7, [.int 0, .ref h1, .int p0, .int (md 1), .int (md 2), .int (md 3), .int (md 4), .int (md 5), .int (md 6), .int (md 7), .int (md 8), .int (md 9), .int (md 10), .int (md 11), .int (md 12), .int fr, .int (md 13), .ref h2, .ref h3, .int (md 14), .int (md 15), .ref h4, .ref h5, .ref h6, .ref h7, .int (md 16), .int (md 17), .int (md 18), .int (md 19), .ref h8])), (h1, .inl (cB, 65536, .inl bf)), (h2, .inl (cI, 512, .inl mp)), (h3, .inl (cI, 512, .inl ml)), (h4, .inl (cJ, 520, .inr (.inl mn))), (h5, .inl (cI, 41, .inl mf)), (h6, .inl (cI, 8192, .inl sp)), (h7, .inl (cI, 8192, .inl sl)), (h8, .inl (cI, 11, .inl et))] := hD
        refine lv_iconst (v := 1) hx hb d_Md_cut_31 (by decide) ?_
        have ef : M_Md_cut md sz p0 = (1, (upd md 0 0), p0) := by unfold M_Md_cut; (try dsimp only); rw [if_pos c_1]; rw [if_neg c_2]; rw [if_pos c_3]
        exact ct_iret hx hb hr (rfl) hlocks d_Md_cut_32 ⟨Nat.zero_le _, Nat.zero_le _⟩ hQ hAe hS (1, (upd md 0 0), p0) rfl ⟨ef.symm, (Or.inr rfl)⟩ (hP.sub [0, 1, 2, 3, 4, 5, 6, 7, 8] rfl) (hD.sub [0, 1, 2, 3, 4, 5, 6, 7, 8] rfl rfl)
      · skip
        refine lv_iconst (v := 0) hx hb d_Md_cut_24 (by decide) ?_
        have ef : M_Md_cut md sz p0 = (0, (upd md 0 0), sz) := by unfold M_Md_cut; (try dsimp only); rw [if_pos c_1]; rw [if_neg c_2]; rw [if_neg c_3]
        exact ct_iret hx hb hr (rfl) hlocks d_Md_cut_25 ⟨Nat.zero_le _, Nat.zero_le _⟩ hQ hAe hS (0, (upd md 0 0), sz) rfl ⟨ef.symm, (Or.inl rfl)⟩ (hP.sub [0, 1, 2, 3, 4, 5, 6, 7, 8] rfl) (hD.sub [0, 1, 2, 3, 4, 5, 6, 7, 8] rfl rfl)
set_option maxHeartbeats 4000000 in
set_option maxRecDepth 100000 in
theorem c_Md_bytes {l : Launch} {D : va_G} {cB cI cJ : ClassId} (h0 h1 h2 h3 h4 h5 h6 h7 h8 : Nat) (md : Nat → Int32) (sz : Int32) (fr : Int32) (bf : Nat → Int32) (mp : Nat → Int32) (ml : Nat → Int32) (mn : Nat → Int64) (mf : Nat → Int32) (sp : Nat → Int32) (sl : Nat → Int32) (et : Nat → Int32) (p0 : Int32) (hG : G_Md_bytes md sz bf p0) : Ct classes BW l D (TY cB cI cJ) y_Md_bytes b_Md_bytes 6 (some .long) ({ frames := 1, cells := 0, slots := 0, locals := 21 } : Room) [.ref h0, .int p0] [(h0, .inr (7, [.int (md 0), .ref h1, .int sz, .int (md 1), .int (md 2), .int (md 3), .int (md 4), .int (md 5), .int (md 6), .int (md 7), .int (md 8), .int (md 9), .int (md 10), .int (md 11), .int (md 12), .int fr, .int (md 13), .ref h2, .ref h3, .int (md 14), .int (md 15), .ref h4, .ref h5, .ref h6, .ref h7, .int (md 16), .int (md 17), .int (md 18), .int (md 19), .ref h8])), (h1, .inl (cB, 65536, .inl bf)), (h2, .inl (cI, 512, .inl mp)), (h3, .inl (cI, 512, .inl ml)), (h4, .inl (cJ, 520, .inr (.inl mn))), (h5, .inl (cI, 41, .inl mf)), (h6, .inl (cI, 8192, .inl sp)), (h7, .inl (cI, 8192, .inl sl)), (h8, .inl (cI, 11, .inl et))] (fun u : Int64 × (Nat → Int32) => u = M_Md_bytes md sz bf p0) (fun u => some (.long u.1)) (fun u => [(h0, .inr (7, [.int (u.2 0), .ref h1, .int sz, .int (u.2 1), .int (u.2 2), .int (u.2 3), .int (u.2 4), .int (u.2 5), .int (u.2 6), .int (u.2 7), .int (u.2 8), .int (u.2 9), .int (u.2 10), .int (u.2 11), .int (u.2 12), .int fr, .int (u.2 13), .ref h2, .ref h3, .int (u.2 14), .int (u.2 15), .ref h4, .ref h5, .ref h6, .ref h7, .int (u.2 16), .int (u.2 17), .int (u.2 18), .int (u.2 19), .ref h8])), (h1, .inl (cB, 65536, .inl bf)), (h2, .inl (cI, 512, .inl mp)), (h3, .inl (cI, 512, .inl ml)), (h4, .inl (cJ, 520, .inr (.inl mn))), (h5, .inl (cI, 41, .inl mf)), (h6, .inl (cI, 8192, .inl sp)), (h7, .inl (cI, 8192, .inl sl)), (h8, .inl (cI, 11, .inl et))]) (0) (0) := by
  refine Ct.intro (by decide +kernel) (Nat.le_of_ble_eq_true rfl) ?_
  intro p e s m below meth c hx hb hr hml hlocks hnm hown hK A hAe hA hS hP hD ls hl Q hQ
  have hown : s.vm.findClass "PictureFileModel" = some m.cls := hown
  have hH : Hold classes BW D (TY cB cI cJ) p s m c b_Md_bytes 6 "PictureFileModel" := ⟨bw_ok, hx, hb, hml, hown, hK⟩
  have hw : ∀ {w : Cond}, w ∈ BW → w.before ([.ref h0, .int p0] : List Value).toArray s = true := fun h => Wd.at bw_ok hK.2 h
  have hl : lv_has ls 6 [(0, .ref h0), (1, .int p0)] := hl
  unfold G_Md_bytes at hG
  refine lv_aload_n hx hb d_Md_bytes_0 rfl (lv_at hl 0 rfl) ?_
  refine lv_iconst (v := 0) hx hb d_Md_bytes_1 (by decide) ?_
  refine va_put (D := D) (ci := 7) (v := .int 0) (ty := .int) (C := R_Md) (T := F_Md) (N := 30) hx hb (kl_Md hK.2) (fun _ h => h) t_Md t_Md_ok n_Md hown hK.1 hP hD hS 0 rfl rfl 0 (by decide) (hw kw_310) (fun _ h9 => h9) rfl (t_Md_ok 0 (by decide)) rfl rfl (Nat.le_of_ble_eq_true rfl) d_Md_bytes_2 (fun H locs hP hD hS => ?_)
  have hP : va_P D classes [(h0, .inr (7, [.int 0, .ref h1, .int sz, .int (md 1), .int (md 2), .int (md 3), .int (md 4), .int (md 5), .int (md 6), .int (md 7), .int (md 8), .int (md 9), .int (md 10), .int (md 11), .int (md 12), .int fr, .int (md 13), .ref h2, .ref h3, .int (md 14), .int (md 15), .ref h4, .ref h5, .ref h6, .ref h7, .int (md 16), .int (md 17), .int (md 18), .int (md 19), .ref h8])), (h1, .inl (cB, 65536, .inl bf)), (h2, .inl (cI, 512, .inl mp)), (h3, .inl (cI, 512, .inl ml)), (h4, .inl (cJ, 520, .inr (.inl mn))), (h5, .inl (cI, 41, .inl mf)), (h6, .inl (cI, 8192, .inl sp)), (h7, .inl (cI, 8192, .inl sl)), (h8, .inl (cI, 11, .inl et))] H := hP
  have hD : va_D A [(h0, .inr (7, [.int 0, .ref h1, .int sz, .int (md 1), .int (md 2), .int (md 3), .int (md 4), .int (md 5), .int (md 6), .int (md 7), .int (md 8), .int (md 9), .int (md 10), .int (md 11), .int (md 12), .int fr, .int (md 13), .ref h2, .ref h3, .int (md 14), .int (md 15), .ref h4, .ref h5, .ref h6, .ref h7, .int (md 16), .int (md 17), .int (md 18), .int (md 19), .ref h8])), (h1, .inl (cB, 65536, .inl bf)), (h2, .inl (cI, 512, .inl mp)), (h3, .inl (cI, 512, .inl ml)), (h4, .inl (cJ, 520, .inr (.inl mn))), (h5, .inl (cI, 41, .inl mf)), (h6, .inl (cI, 8192, .inl sp)), (h7, .inl (cI, 8192, .inl sl)), (h8, .inl (cI, 11, .inl et))] := hD
  refine lv_lconst (v := 0) hx hb d_Md_bytes_5 (by decide) ?_
  refine lv_lstore_n (lv' := [(2, .long 0), (0, .ref h0), (1, .int p0)]) hx hb d_Md_bytes_6 rfl hl (by decide) rfl (fun ls hl => ?_)
  refine lv_iconst (v := 0) hx hb d_Md_bytes_7 (by decide) ?_
  refine lv_istore (lv' := [(4, .int 0), (2, .long 0), (0, .ref h0), (1, .int p0)]) hx hb d_Md_bytes_8 hl (by decide) rfl (fun ls hl => ?_)
  have LP10 : ∀ (n : Nat) (v4 : Int32) (v2 : Int64) (H : Heap) (locs : List Loc) (ls : Array Slot), GL_Md_bytes md sz bf p0 n v4 v2 → M_Md_bytes md sz bf p0 = L_Md_bytes md sz bf p0 n v4 v2 → va_P D classes [(h0, .inr (7, [.int 0, .ref h1, .int sz, .int (md 1), .int (md 2), .int (md 3), .int (md 4), .int (md 5), .int (md 6), .int (md 7), .int (md 8), .int (md 9), .int (md 10), .int (md 11), .int (md 12), .int fr, .int (md 13), .ref h2, .ref h3, .int (md 14), .int (md 15), .ref h4, .ref h5, .ref h6, .ref h7, .int (md 16), .int (md 17), .int (md 18), .int (md 19), .ref h8])), (h1, .inl (cB, 65536, .inl bf)), (h2, .inl (cI, 512, .inl mp)), (h3, .inl (cI, 512, .inl ml)), (h4, .inl (cJ, 520, .inr (.inl mn))), (h5, .inl (cI, 41, .inl mf)), (h6, .inl (cI, 8192, .inl sp)), (h7, .inl (cI, 8192, .inl sl)), (h8, .inl (cI, 11, .inl et))] H → va_D A [(h0, .inr (7, [.int 0, .ref h1, .int sz, .int (md 1), .int (md 2), .int (md 3), .int (md 4), .int (md 5), .int (md 6), .int (md 7), .int (md 8), .int (md 9), .int (md 10), .int (md 11), .int (md 12), .int fr, .int (md 13), .ref h2, .ref h3, .int (md 14), .int (md 15), .ref h4, .ref h5, .ref h6, .ref h7, .int (md 16), .int (md 17), .int (md 18), .int (md 19), .ref h8])), (h1, .inl (cB, 65536, .inl bf)), (h2, .inl (cI, 512, .inl mp)), (h3, .inl (cI, 512, .inl ml)), (h4, .inl (cJ, 520, .inr (.inl mn))), (h5, .inl (cI, 41, .inl mf)), (h6, .inl (cI, 8192, .inl sp)), (h7, .inl (cI, 8192, .inl sl)), (h8, .inl (cI, 11, .inl et))] → va_S A s.heap H locs → lv_has ls 6 [(0, .ref h0), (1, .int p0), (4, .int v4), (2, .long v2)] → W p l e ({ frames := 1, cells := 0, slots := 0, locals := 21 } : Room) s m ([.ref h0, .int p0] : List Value).toArray below meth c H locs 0 0 Q (F0 m 10 ls []) := by
    intro n
    induction n with
    | zero => intro v4 v2 H locs ls hG hM hP hD hS hl; rw [GL_Md_bytes] at hG; exact hG.elim
    | succ n ih =>
      intro v4 v2 H locs ls hG hM hP hD hS hl
      rw [GL_Md_bytes] at hG
      refine lv_iload hx hb d_Md_bytes_10 (lv_at hl 2 rfl) ?_
      refine lv_bipush (v := 8) hx hb d_Md_bytes_12 (by decide) ?_
      refine lv_icmp_ge (tgt := 91) hx hb d_Md_bytes_14 (by decide) (fun c_1 => ?_) (fun c_1 => ?_)
      · replace hG := gp_pos c_1 hG
        refine lv_lload_n hx hb d_Md_bytes_91 rfl (lv_at hl 3 rfl) ?_
        have ef : M_Md_bytes md sz bf p0 = (v2, (upd md 0 0)) := by rw [hM, L_Md_bytes]; (try dsimp only); rw [if_pos c_1]
        exact ct_lret hx hb hr hlocks d_Md_bytes_92 ⟨Nat.zero_le _, Nat.zero_le _⟩ hQ hAe hS (v2, (upd md 0 0)) rfl ef.symm (hP.sub [0, 1, 2, 3, 4, 5, 6, 7, 8] rfl) (hD.sub [0, 1, 2, 3, 4, 5, 6, 7, 8] rfl rfl)
      · replace hG := gp_neg c_1 hG
        refine lv_iload_n hx hb d_Md_bytes_17 rfl (lv_at hl 1 rfl) ?_
        refine lv_if_lt (tgt := 46) hx hb d_Md_bytes_18 (by decide) (fun c_2 => ?_) (fun c_2 => ?_)
        · replace hG := gp_pos c_2 hG
          refine lv_iconst (v := 0) hx hb d_Md_bytes_46 (by decide) ?_
          refine lv_istore (lv' := [(5, .int 0), (0, .ref h0), (1, .int p0), (4, .int v4), (2, .long v2)]) hx hb d_Md_bytes_47 hl (by decide) rfl (fun ls hl => ?_)
          refine lv_lload_n hx hb d_Md_bytes_49 rfl (lv_at hl 4 rfl) ?_
          refine lv_bipush (v := 8) hx hb d_Md_bytes_50 (by decide) ?_
          refine lv_lshl hx hb d_Md_bytes_52 rfl ?_
          refine lv_iload hx hb d_Md_bytes_53 (lv_at hl 0 rfl) ?_
          refine lv_if_eq (tgt := 81) hx hb d_Md_bytes_55 (by decide) (fun _ => ?_) (fun c => absurd (by decide) c)
          refine lv_iconst (v := 0) hx hb d_Md_bytes_81 (by decide) ?_
          refine lv_i2l hx hb d_Md_bytes_82 rfl ?_
          refine lv_lor hx hb d_Md_bytes_83 ?_
          refine lv_topl (fun y1 e1 => ?_)
          replace hG := hG y1 e1
          refine lv_lstore_n (lv' := [(2, .long y1), (5, .int 0), (0, .ref h0), (1, .int p0), (4, .int v4)]) hx hb d_Md_bytes_84 rfl hl (by decide) rfl (fun ls hl => ?_)
          refine lv_iinc (v := (v4 + 1)) (lv' := [(4, .int (v4 + 1)), (2, .long y1), (5, .int 0), (0, .ref h0), (1, .int p0)]) hx hb d_Md_bytes_85 hl (k := 4) rfl rfl (by decide) rfl (fun ls hl => ?_)
          refine lv_goto (tgt := 10) hx hb d_Md_bytes_88 (by decide) ?_
          exact ih (v4 + 1) y1 H locs ls (hG) (by rw [hM, L_Md_bytes]; (try dsimp only); rw [if_neg c_1]; rw [if_pos c_2]; (try rw [← e1]))  (hP.sub [0, 1, 2, 3, 4, 5, 6, 7, 8] rfl) (hD.sub [0, 1, 2, 3, 4, 5, 6, 7, 8] rfl rfl) hS (lv_sub hl [3, 4, 0, 1] rfl)
        · replace hG := gp_neg c_2 hG
          refine lv_iload_n hx hb d_Md_bytes_21 rfl (lv_at hl 1 rfl) ?_
          refine lv_sipush (v := 8192) hx hb d_Md_bytes_22 (by decide) ?_
          refine lv_icmp_ge (tgt := 46) hx hb d_Md_bytes_25 (by decide) (fun c_3 => ?_) (fun c_3 => ?_)
          · replace hG := gp_pos c_3 hG
            refine lv_iconst (v := 0) hx hb d_Md_bytes_46 (by decide) ?_
            refine lv_istore (lv' := [(5, .int 0), (0, .ref h0), (1, .int p0), (4, .int v4), (2, .long v2)]) hx hb d_Md_bytes_47 hl (by decide) rfl (fun ls hl => ?_)
            refine lv_lload_n hx hb d_Md_bytes_49 rfl (lv_at hl 4 rfl) ?_
            refine lv_bipush (v := 8) hx hb d_Md_bytes_50 (by decide) ?_
            refine lv_lshl hx hb d_Md_bytes_52 rfl ?_
            refine lv_iload hx hb d_Md_bytes_53 (lv_at hl 0 rfl) ?_
            refine lv_if_eq (tgt := 81) hx hb d_Md_bytes_55 (by decide) (fun _ => ?_) (fun c => absurd (by decide) c)
            refine lv_iconst (v := 0) hx hb d_Md_bytes_81 (by decide) ?_
            refine lv_i2l hx hb d_Md_bytes_82 rfl ?_
            refine lv_lor hx hb d_Md_bytes_83 ?_
            refine lv_topl (fun y2 e2 => ?_)
            replace hG := hG y2 e2
            refine lv_lstore_n (lv' := [(2, .long y2), (5, .int 0), (0, .ref h0), (1, .int p0), (4, .int v4)]) hx hb d_Md_bytes_84 rfl hl (by decide) rfl (fun ls hl => ?_)
            refine lv_iinc (v := (v4 + 1)) (lv' := [(4, .int (v4 + 1)), (2, .long y2), (5, .int 0), (0, .ref h0), (1, .int p0)]) hx hb d_Md_bytes_85 hl (k := 4) rfl rfl (by decide) rfl (fun ls hl => ?_)
            refine lv_goto (tgt := 10) hx hb d_Md_bytes_88 (by decide) ?_
            exact ih (v4 + 1) y2 H locs ls (hG) (by rw [hM, L_Md_bytes]; (try dsimp only); rw [if_neg c_1]; rw [if_neg c_2]; rw [if_pos c_3]; (try rw [← e2]))  (hP.sub [0, 1, 2, 3, 4, 5, 6, 7, 8] rfl) (hD.sub [0, 1, 2, 3, 4, 5, 6, 7, 8] rfl rfl) hS (lv_sub hl [3, 4, 0, 1] rfl)
          · replace hG := gp_neg c_3 hG
            refine lv_bipush (v := 8) hx hb d_Md_bytes_28 (by decide) ?_
            refine lv_iload_n hx hb d_Md_bytes_30 rfl (lv_at hl 1 rfl) ?_
            refine lv_imul hx hb d_Md_bytes_31 ?_
            refine lv_iload hx hb d_Md_bytes_32 (lv_at hl 2 rfl) ?_
            refine lv_iadd hx hb d_Md_bytes_34 ?_
            refine lv_aload_n hx hb d_Md_bytes_35 rfl (lv_at hl 0 rfl) ?_
            refine va_get (D := D) (ci := 7) (C := R_Md) (T := F_Md) (N := 30) hx hb (kl_Md hK.2) (fun _ h => h) hown hK.1 hP 0 rfl rfl 2 (by decide) (hw kw_312) (fun _ h9 => h9) rfl d_Md_bytes_36 ?_
            refine lv_icmp_ge (tgt := 46) hx hb d_Md_bytes_39 (by decide) (fun c_4 => ?_) (fun c_4 => ?_)
            · replace hG := gp_pos c_4 hG
              refine lv_iconst (v := 0) hx hb d_Md_bytes_46 (by decide) ?_
              refine lv_istore (lv' := [(5, .int 0), (0, .ref h0), (1, .int p0), (4, .int v4), (2, .long v2)]) hx hb d_Md_bytes_47 hl (by decide) rfl (fun ls hl => ?_)
              refine lv_lload_n hx hb d_Md_bytes_49 rfl (lv_at hl 4 rfl) ?_
              refine lv_bipush (v := 8) hx hb d_Md_bytes_50 (by decide) ?_
              refine lv_lshl hx hb d_Md_bytes_52 rfl ?_
              refine lv_iload hx hb d_Md_bytes_53 (lv_at hl 0 rfl) ?_
              refine lv_if_eq (tgt := 81) hx hb d_Md_bytes_55 (by decide) (fun _ => ?_) (fun c => absurd (by decide) c)
              refine lv_iconst (v := 0) hx hb d_Md_bytes_81 (by decide) ?_
              refine lv_i2l hx hb d_Md_bytes_82 rfl ?_
              refine lv_lor hx hb d_Md_bytes_83 ?_
              refine lv_topl (fun y3 e3 => ?_)
              replace hG := hG y3 e3
              refine lv_lstore_n (lv' := [(2, .long y3), (5, .int 0), (0, .ref h0), (1, .int p0), (4, .int v4)]) hx hb d_Md_bytes_84 rfl hl (by decide) rfl (fun ls hl => ?_)
              refine lv_iinc (v := (v4 + 1)) (lv' := [(4, .int (v4 + 1)), (2, .long y3), (5, .int 0), (0, .ref h0), (1, .int p0)]) hx hb d_Md_bytes_85 hl (k := 4) rfl rfl (by decide) rfl (fun ls hl => ?_)
              refine lv_goto (tgt := 10) hx hb d_Md_bytes_88 (by decide) ?_
              exact ih (v4 + 1) y3 H locs ls (hG) (by rw [hM, L_Md_bytes]; (try dsimp only); rw [if_neg c_1]; rw [if_neg c_2]; rw [if_neg c_3]; rw [if_pos c_4]; (try rw [← e3]))  (hP.sub [0, 1, 2, 3, 4, 5, 6, 7, 8] rfl) (hD.sub [0, 1, 2, 3, 4, 5, 6, 7, 8] rfl rfl) hS (lv_sub hl [3, 4, 0, 1] rfl)
            · replace hG := gp_neg c_4 hG
              refine lv_iconst (v := 1) hx hb d_Md_bytes_42 (by decide) ?_
              refine lv_goto (tgt := 47) hx hb d_Md_bytes_43 (by decide) ?_
              refine lv_istore (lv' := [(5, .int 1), (0, .ref h0), (1, .int p0), (4, .int v4), (2, .long v2)]) hx hb d_Md_bytes_47 hl (by decide) rfl (fun ls hl => ?_)
              refine lv_lload_n hx hb d_Md_bytes_49 rfl (lv_at hl 4 rfl) ?_
              refine lv_bipush (v := 8) hx hb d_Md_bytes_50 (by decide) ?_
              refine lv_lshl hx hb d_Md_bytes_52 rfl ?_
              refine lv_iload hx hb d_Md_bytes_53 (lv_at hl 0 rfl) ?_
              refine lv_if_eq (tgt := 81) hx hb d_Md_bytes_55 (by decide) (fun c => absurd c (by decide)) (fun _ => ?_)
              refine lv_aload_n hx hb d_Md_bytes_58 rfl (lv_at hl 1 rfl) ?_
              refine lv_iload hx hb d_Md_bytes_59 (lv_at hl 0 rfl) ?_
              refine lv_if_eq (tgt := 74) hx hb d_Md_bytes_61 (by decide) (fun c => absurd c (by decide)) (fun _ => ?_)
              refine lv_bipush (v := 8) hx hb d_Md_bytes_64 (by decide) ?_
              refine lv_iload_n hx hb d_Md_bytes_66 rfl (lv_at hl 2 rfl) ?_
              refine lv_imul hx hb d_Md_bytes_67 ?_
              refine lv_iload hx hb d_Md_bytes_68 (lv_at hl 3 rfl) ?_
              refine lv_iadd hx hb d_Md_bytes_70 ?_
              refine lv_goto (tgt := 75) hx hb d_Md_bytes_71 (by decide) ?_
              obtain ⟨g_12, hG⟩ := hG
              refine ct_finP (ct_runV (n := 1) (C := R_Md) (b := h0) (As := [.int ((8 * p0) + v4)]) (rest := [.long (v2 <<< ((8 : Int32).toInt64 &&& 63))]) hH (c_Md_at h0 h1 h2 h3 h4 h5 h6 h7 h8 (upd md 0 0) sz fr bf mp ml mn mf sp sl et ((8 * p0) + v4) g_12 _) ⟨cal_Md_at, ⟨Nat.le_of_ble_eq_true rfl, Nat.le_of_ble_eq_true rfl⟩, (Nat.le_of_ble_eq_true rfl), (Nat.le_of_ble_eq_true rfl)⟩ kw_342 kw_343 kw_316 kw_344 kw_345 (va_recv hK.1 hP (ci := 7) (q0 := 0) rfl rfl) (hP.sub (ws' := [(h0, .inr (7, [.int 0, .ref h1, .int sz, .int (md 1), .int (md 2), .int (md 3), .int (md 4), .int (md 5), .int (md 6), .int (md 7), .int (md 8), .int (md 9), .int (md 10), .int (md 11), .int (md 12), .int fr, .int (md 13), .ref h2, .ref h3, .int (md 14), .int (md 15), .ref h4, .ref h5, .ref h6, .ref h7, .int (md 16), .int (md 17), .int (md 18), .int (md 19), .ref h8])), (h1, .inl (cB, 65536, .inl bf)), (h2, .inl (cI, 512, .inl mp)), (h3, .inl (cI, 512, .inl ml)), (h4, .inl (cJ, 520, .inr (.inl mn))), (h5, .inl (cI, 41, .inl mf)), (h6, .inl (cI, 8192, .inl sp)), (h7, .inl (cI, 8192, .inl sl)), (h8, .inl (cI, 11, .inl et))]) [0, 1, 2, 3, 4, 5, 6, 7, 8] rfl) (hD.sub (ws' := [(h0, .inr (7, [.int 0, .ref h1, .int sz, .int (md 1), .int (md 2), .int (md 3), .int (md 4), .int (md 5), .int (md 6), .int (md 7), .int (md 8), .int (md 9), .int (md 10), .int (md 11), .int (md 12), .int fr, .int (md 13), .ref h2, .ref h3, .int (md 14), .int (md 15), .ref h4, .ref h5, .ref h6, .ref h7, .int (md 16), .int (md 17), .int (md 18), .int (md 19), .ref h8])), (h1, .inl (cB, 65536, .inl bf)), (h2, .inl (cI, 512, .inl mp)), (h3, .inl (cI, 512, .inl ml)), (h4, .inl (cJ, 520, .inr (.inl mn))), (h5, .inl (cI, 41, .inl mf)), (h6, .inl (cI, 8192, .inl sp)), (h7, .inl (cI, 8192, .inl sl)), (h8, .inl (cI, 11, .inl et))]) [0, 1, 2, 3, 4, 5, 6, 7, 8] rfl rfl) rfl hl.1 (Nat.le_of_ble_eq_true rfl) d_Md_bytes_75) hP hS (fun H hP hS => ?_)
              refine W.eq (g2 := F0 m 78 ls [.int (M_Md_at bf ((8 * p0) + v4)), .long (v2 <<< ((8 : Int32).toInt64 &&& 63))]) rfl ?_
              refine lv_goto (tgt := 82) hx hb d_Md_bytes_78 (by decide) ?_
              refine lv_i2l hx hb d_Md_bytes_82 rfl ?_
              refine lv_lor hx hb d_Md_bytes_83 ?_
              refine lv_topl (fun y4 e4 => ?_)
              replace hG := hG y4 e4
              refine lv_lstore_n (lv' := [(2, .long y4), (5, .int 1), (0, .ref h0), (1, .int p0), (4, .int v4)]) hx hb d_Md_bytes_84 rfl hl (by decide) rfl (fun ls hl => ?_)
              refine lv_iinc (v := (v4 + 1)) (lv' := [(4, .int (v4 + 1)), (2, .long y4), (5, .int 1), (0, .ref h0), (1, .int p0)]) hx hb d_Md_bytes_85 hl (k := 4) rfl rfl (by decide) rfl (fun ls hl => ?_)
              refine lv_goto (tgt := 10) hx hb d_Md_bytes_88 (by decide) ?_
              exact ih (v4 + 1) y4 H locs ls (hG) (by rw [hM, L_Md_bytes]; (try dsimp only); rw [if_neg c_1]; rw [if_neg c_2]; rw [if_neg c_3]; rw [if_neg c_4]; (try rw [← e4]))  (hP.sub [0, 1, 2, 3, 4, 5, 6, 7, 8] rfl) (hD.sub [0, 1, 2, 3, 4, 5, 6, 7, 8] rfl rfl) hS (lv_sub hl [3, 4, 0, 1] rfl)
  exact LP10 (((8 : Int32).toInt - (0 : Int32).toInt).toNat + 1) 0 0 _ _ _ hG (by rfl)  (hP.sub [0, 1, 2, 3, 4, 5, 6, 7, 8] rfl) (hD.sub [0, 1, 2, 3, 4, 5, 6, 7, 8] rfl rfl) hS (lv_sub hl [2, 3, 0, 1] rfl)
