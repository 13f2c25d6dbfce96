set_option maxHeartbeats 4000000 in
set_option maxRecDepth 100000 in
theorem c_Md_end {l : Launch} {D : va_G} {cB cI cJ : ClassId} (h0 h1 h2 h3 h4 h5 h6 h7 h8 : Nat) (md : Nat → Int32) (sz : Int32) (fr : Int32) (bf : Nat → Int32) (mp : Nat → Int32) (ml : Nat → Int32) (mn : Nat → Int64) (mf : Nat → Int32) (sp : Nat → Int32) (sl : Nat → Int32) (et : Nat → Int32) : Ct classes BW l D (TY cB cI cJ) y_Md_end b_Md_end 1 (some .int) ({ frames := 0, cells := 0, slots := 0, locals := 0 } : Room) [.ref h0] [(h0, .inr (7, [.int (md 0), .ref h1, .int sz, .int (md 1), .int (md 2), .int (md 3), .int (md 4), .int (md 5), .int (md 6), .int (md 7), .int (md 8), .int (md 9), .int (md 10), .int (md 11), .int (md 12), .int fr, .int (md 13), .ref h2, .ref h3, .int (md 14), .int (md 15), .ref h4, .ref h5, .ref h6, .ref h7, .int (md 16), .int (md 17), .int (md 18), .int (md 19), .ref h8])), (h1, .inl (cB, 65536, .inl bf)), (h2, .inl (cI, 512, .inl mp)), (h3, .inl (cI, 512, .inl ml)), (h4, .inl (cJ, 520, .inr (.inl mn))), (h5, .inl (cI, 41, .inl mf)), (h6, .inl (cI, 8192, .inl sp)), (h7, .inl (cI, 8192, .inl sl)), (h8, .inl (cI, 11, .inl et))] (fun u : Int32 × (Nat → Int32) => u = M_Md_end md) (fun u => some (.int u.1)) (fun u => [(h0, .inr (7, [.int (u.2 0), .ref h1, .int sz, .int (u.2 1), .int (u.2 2), .int (u.2 3), .int (u.2 4), .int (u.2 5), .int (u.2 6), .int (u.2 7), .int (u.2 8), .int (u.2 9), .int (u.2 10), .int (u.2 11), .int (u.2 12), .int fr, .int (u.2 13), .ref h2, .ref h3, .int (u.2 14), .int (u.2 15), .ref h4, .ref h5, .ref h6, .ref h7, .int (u.2 16), .int (u.2 17), .int (u.2 18), .int (u.2 19), .ref h8])), (h1, .inl (cB, 65536, .inl bf)), (h2, .inl (cI, 512, .inl mp)), (h3, .inl (cI, 512, .inl ml)), (h4, .inl (cJ, 520, .inr (.inl mn))), (h5, .inl (cI, 41, .inl mf)), (h6, .inl (cI, 8192, .inl sp)), (h7, .inl (cI, 8192, .inl sl)), (h8, .inl (cI, 11, .inl et))]) (0) (0) := by
  refine Ct.intro (by decide +kernel) (Nat.le_of_ble_eq_true rfl) ?_
  intro p e s m below meth c hx hb hr hml hlocks hnm hown hK A hAe hA hS hP hD ls hl Q hQ
  have hown : s.vm.findClass "PictureFileModel" = some m.cls := hown
  have hH : Hold classes BW D (TY cB cI cJ) p s m c b_Md_end 1 "PictureFileModel" := ⟨bw_ok, hx, hb, hml, hown, hK⟩
  have hw : ∀ {w : Cond}, w ∈ BW → w.before ([.ref h0] : List Value).toArray s = true := fun h => Wd.at bw_ok hK.2 h
  have hl : lv_has ls 1 [(0, .ref h0)] := hl
  refine lv_aload_n hx hb d_Md_end_0 rfl (lv_at hl 0 rfl) ?_
  refine lv_aload_n hx hb d_Md_end_1 rfl (lv_at hl 0 rfl) ?_
  refine va_get (D := D) (ci := 7) (C := R_Md) (T := F_Md) (N := 30) hx hb (kl_Md hK.2) (fun _ h => h) hown hK.1 hP 0 rfl rfl 3 (by decide) (hw kw_327) (fun _ h9 => h9) rfl d_Md_end_2 ?_
  refine lv_if_eq (tgt := 15) hx hb d_Md_end_5 (by decide) (fun c_1 => ?_) (fun c_1 => ?_)
  · skip
    refine lv_iconst (v := 1) hx hb d_Md_end_15 (by decide) ?_
    refine lv_goto (tgt := 20) hx hb d_Md_end_16 (by decide) ?_
    refine va_put (D := D) (ci := 7) (v := .int 1) (ty := .int) (C := R_Md) (T := F_Md) (N := 30) hx hb (kl_Md hK.2) (fun _ h => h) t_Md t_Md_ok n_Md hown hK.1 hP hD hS 0 rfl rfl 0 (by decide) (hw kw_310) (fun _ h9 => h9) rfl (t_Md_ok 0 (by decide)) rfl rfl (Nat.le_of_ble_eq_true rfl) d_Md_end_20 (fun H locs hP hD hS => ?_)
    have hP : va_P D classes [(h0, .inr (7, [.int 1, .ref h1, .int sz, .int (md 1), .int (md 2), .int (md 3), .int (md 4), .int (md 5), .int (md 6), .int (md 7), .int (md 8), .int (md 9), .int (md 10), .int (md 11), .int (md 12), .int fr, .int (md 13), .ref h2, .ref h3, .int (md 14), .int (md 15), .ref h4, .ref h5, .ref h6, .ref h7, .int (md 16), .int (md 17), .int (md 18), .int (md 19), .ref h8])), (h1, .inl (cB, 65536, .inl bf)), (h2, .inl (cI, 512, .inl mp)), (h3, .inl (cI, 512, .inl ml)), (h4, .inl (cJ, 520, .inr (.inl mn))), (h5, .inl (cI, 41, .inl mf)), (h6, .inl (cI, 8192, .inl sp)), (h7, .inl (cI, 8192, .inl sl)), (h8, .inl (cI, 11, .inl et))] H := hP
    have hD : va_D A [(h0, .inr (7, [.int 1, .ref h1, .int sz, .int (md 1), .int (md 2), .int (md 3), .int (md 4), .int (md 5), .int (md 6), .int (md 7), .int (md 8), .int (md 9), .int (md 10), .int (md 11), .int (md 12), .int fr, .int (md 13), .ref h2, .ref h3, .int (md 14), .int (md 15), .ref h4, .ref h5, .ref h6, .ref h7, .int (md 16), .int (md 17), .int (md 18), .int (md 19), .ref h8])), (h1, .inl (cB, 65536, .inl bf)), (h2, .inl (cI, 512, .inl mp)), (h3, .inl (cI, 512, .inl ml)), (h4, .inl (cJ, 520, .inr (.inl mn))), (h5, .inl (cI, 41, .inl mf)), (h6, .inl (cI, 8192, .inl sp)), (h7, .inl (cI, 8192, .inl sl)), (h8, .inl (cI, 11, .inl et))] := hD
    refine lv_aload_n hx hb d_Md_end_23 rfl (lv_at hl 0 rfl) ?_
    refine va_get (D := D) (ci := 7) (C := R_Md) (T := F_Md) (N := 30) hx hb (kl_Md hK.2) (fun _ h => h) hown hK.1 hP 0 rfl rfl 0 (by decide) (hw kw_310) (fun _ h9 => h9) rfl d_Md_end_24 ?_
    refine lv_if_le (tgt := 32) hx hb d_Md_end_27 (by decide) (fun c => absurd c (by decide)) (fun _ => ?_)
    refine lv_iconst (v := 0) hx hb d_Md_end_30 (by decide) ?_
    have ef : M_Md_end md = (0, (upd md 0 1)) := by unfold M_Md_end; (try dsimp only); rw [if_pos c_1]
    exact ct_iret hx hb hr rfl hlocks d_Md_end_31 ⟨Nat.zero_le _, Nat.zero_le _⟩ hQ hAe hS (0, (upd md 0 1)) rfl ef.symm (hP.sub [0, 1, 2, 3, 4, 5, 6, 7, 8] rfl) (hD.sub [0, 1, 2, 3, 4, 5, 6, 7, 8] rfl rfl)
  · skip
    refine lv_aload_n hx hb d_Md_end_8 rfl (lv_at hl 0 rfl) ?_
    refine va_get (D := D) (ci := 7) (C := R_Md) (T := F_Md) (N := 30) hx hb (kl_Md hK.2) (fun _ h => h) hown hK.1 hP 0 rfl rfl 4 (by decide) (hw kw_328) (fun _ h9 => h9) rfl d_Md_end_9 ?_
    refine lv_if_eq (tgt := 19) hx hb d_Md_end_12 (by decide) (fun c_2 => ?_) (fun c_2 => ?_)
    · skip
      refine lv_iconst (v := 0) hx hb d_Md_end_19 (by decide) ?_
      refine va_put (D := D) (ci := 7) (v := .int 0) (ty := .int) (C := R_Md) (T := F_Md) (N := 30) hx hb (kl_Md hK.2) (fun _ h => h) t_Md t_Md_ok n_Md hown hK.1 hP hD hS 0 rfl rfl 0 (by decide) (hw kw_310) (fun _ h9 => h9) rfl (t_Md_ok 0 (by decide)) rfl rfl (Nat.le_of_ble_eq_true rfl) d_Md_end_20 (fun H locs hP hD hS => ?_)
      have hP : va_P D classes [(h0, .inr (7, [.int 0, .ref h1, .int sz, .int (md 1), .int (md 2), .int (md 3), .int (md 4), .int (md 5), .int (md 6), .int (md 7), .int (md 8), .int (md 9), .int (md 10), .int (md 11), .int (md 12), .int fr, .int (md 13), .ref h2, .ref h3, .int (md 14), .int (md 15), .ref h4, .ref h5, .ref h6, .ref h7, .int (md 16), .int (md 17), .int (md 18), .int (md 19), .ref h8])), (h1, .inl (cB, 65536, .inl bf)), (h2, .inl (cI, 512, .inl mp)), (h3, .inl (cI, 512, .inl ml)), (h4, .inl (cJ, 520, .inr (.inl mn))), (h5, .inl (cI, 41, .inl mf)), (h6, .inl (cI, 8192, .inl sp)), (h7, .inl (cI, 8192, .inl sl)), (h8, .inl (cI, 11, .inl et))] H := hP
      have hD : va_D A [(h0, .inr (7, [.int 0, .ref h1, .int sz, .int (md 1), .int (md 2), .int (md 3), .int (md 4), .int (md 5), .int (md 6), .int (md 7), .int (md 8), .int (md 9), .int (md 10), .int (md 11), .int (md 12), .int fr, .int (md 13), .ref h2, .ref h3, .int (md 14), .int (md 15), .ref h4, .ref h5, .ref h6, .ref h7, .int (md 16), .int (md 17), .int (md 18), .int (md 19), .ref h8])), (h1, .inl (cB, 65536, .inl bf)), (h2, .inl (cI, 512, .inl mp)), (h3, .inl (cI, 512, .inl ml)), (h4, .inl (cJ, 520, .inr (.inl mn))), (h5, .inl (cI, 41, .inl mf)), (h6, .inl (cI, 8192, .inl sp)), (h7, .inl (cI, 8192, .inl sl)), (h8, .inl (cI, 11, .inl et))] := hD
      refine lv_aload_n hx hb d_Md_end_23 rfl (lv_at hl 0 rfl) ?_
      refine va_get (D := D) (ci := 7) (C := R_Md) (T := F_Md) (N := 30) hx hb (kl_Md hK.2) (fun _ h => h) hown hK.1 hP 0 rfl rfl 0 (by decide) (hw kw_310) (fun _ h9 => h9) rfl d_Md_end_24 ?_
      refine lv_if_le (tgt := 32) hx hb d_Md_end_27 (by decide) (fun _ => ?_) (fun c => absurd (by decide) c)
      refine lv_aload_n hx hb d_Md_end_32 rfl (lv_at hl 0 rfl) ?_
      refine lv_iconst (v := 0) hx hb d_Md_end_33 (by decide) ?_
      refine va_put (D := D) (ci := 7) (v := .int 0) (ty := .boolean) (C := R_Md) (T := F_Md) (N := 30) hx hb (kl_Md hK.2) (fun _ h => h) t_Md t_Md_ok n_Md hown hK.1 hP hD hS 0 rfl rfl 3 (by decide) (hw kw_327) (fun _ h9 => h9) rfl (t_Md_ok 3 (by decide)) rfl rfl (Nat.le_of_ble_eq_true rfl) d_Md_end_34 (fun H locs hP hD hS => ?_)
      have hP : va_P D classes [(h0, .inr (7, [.int 0, .ref h1, .int sz, .int 0, .int (md 2), .int (md 3), .int (md 4), .int (md 5), .int (md 6), .int (md 7), .int (md 8), .int (md 9), .int (md 10), .int (md 11), .int (md 12), .int fr, .int (md 13), .ref h2, .ref h3, .int (md 14), .int (md 15), .ref h4, .ref h5, .ref h6, .ref h7, .int (md 16), .int (md 17), .int (md 18), .int (md 19), .ref h8])), (h1, .inl (cB, 65536, .inl bf)), (h2, .inl (cI, 512, .inl mp)), (h3, .inl (cI, 512, .inl ml)), (h4, .inl (cJ, 520, .inr (.inl mn))), (h5, .inl (cI, 41, .inl mf)), (h6, .inl (cI, 8192, .inl sp)), (h7, .inl (cI, 8192, .inl sl)), (h8, .inl (cI, 11, .inl et))] H := hP
      have hD : va_D A [(h0, .inr (7, [.int 0, .ref h1, .int sz, .int 0, .int (md 2), .int (md 3), .int (md 4), .int (md 5), .int (md 6), .int (md 7), .int (md 8), .int (md 9), .int (md 10), .int (md 11), .int (md 12), .int fr, .int (md 13), .ref h2, .ref h3, .int (md 14), .int (md 15), .ref h4, .ref h5, .ref h6, .ref h7, .int (md 16), .int (md 17), .int (md 18), .int (md 19), .ref h8])), (h1, .inl (cB, 65536, .inl bf)), (h2, .inl (cI, 512, .inl mp)), (h3, .inl (cI, 512, .inl ml)), (h4, .inl (cJ, 520, .inr (.inl mn))), (h5, .inl (cI, 41, .inl mf)), (h6, .inl (cI, 8192, .inl sp)), (h7, .inl (cI, 8192, .inl sl)), (h8, .inl (cI, 11, .inl et))] := hD
      refine lv_aload_n hx hb d_Md_end_37 rfl (lv_at hl 0 rfl) ?_
      refine va_get (D := D) (ci := 7) (C := R_Md) (T := F_Md) (N := 30) hx hb (kl_Md hK.2) (fun _ h => h) hown hK.1 hP 0 rfl rfl 6 (by decide) (hw kw_329) (fun _ h9 => h9) rfl d_Md_end_38 ?_
      have ef : M_Md_end md = ((md 4), (upd (upd md 0 0) 1 0)) := by unfold M_Md_end; (try dsimp only); rw [if_neg c_1]; rw [if_pos c_2]
      exact ct_iret hx hb hr rfl hlocks d_Md_end_41 ⟨Nat.zero_le _, Nat.zero_le _⟩ hQ hAe hS ((md 4), (upd (upd md 0 0) 1 0)) rfl ef.symm (hP.sub [0, 1, 2, 3, 4, 5, 6, 7, 8] rfl) (hD.sub [0, 1, 2, 3, 4, 5, 6, 7, 8] rfl rfl)
    · skip
      refine lv_iconst (v := 1) hx hb d_Md_end_15 (by decide) ?_
      refine lv_goto (tgt := 20) hx hb d_Md_end_16 (by decide) ?_
      refine va_put (D := D) (ci := 7) (v := .int 1) (ty := .int) (C := R_Md) (T := F_Md) (N := 30) hx hb (kl_Md hK.2) (fun _ h => h) t_Md t_Md_ok n_Md hown hK.1 hP hD hS 0 rfl rfl 0 (by decide) (hw kw_310) (fun _ h9 => h9) rfl (t_Md_ok 0 (by decide)) rfl rfl (Nat.le_of_ble_eq_true rfl) d_Md_end_20 (fun H locs hP hD hS => ?_)
      have hP : va_P D classes [(h0, .inr (7, [.int 1, .ref h1, .int sz, .int (md 1), .int (md 2), .int (md 3), .int (md 4), .int (md 5), .int (md 6), .int (md 7), .int (md 8), .int (md 9), .int (md 10), .int (md 11), .int (md 12), .int fr, .int (md 13), .ref h2, .ref h3, .int (md 14), .int (md 15), .ref h4, .ref h5, .ref h6, .ref h7, .int (md 16), .int (md 17), .int (md 18), .int (md 19), .ref h8])), (h1, .inl (cB, 65536, .inl bf)), (h2, .inl (cI, 512, .inl mp)), (h3, .inl (cI, 512, .inl ml)), (h4, .inl (cJ, 520, .inr (.inl mn))), (h5, .inl (cI, 41, .inl mf)), (h6, .inl (cI, 8192, .inl sp)), (h7, .inl (cI, 8192, .inl sl)), (h8, .inl (cI, 11, .inl et))] H := hP
      have hD : va_D A [(h0, .inr (7, [.int 1, .ref h1, .int sz, .int (md 1), .int (md 2), .int (md 3), .int (md 4), .int (md 5), .int (md 6), .int (md 7), .int (md 8), .int (md 9), .int (md 10), .int (md 11), .int (md 12), .int fr, .int (md 13), .ref h2, .ref h3, .int (md 14), .int (md 15), .ref h4, .ref h5, .ref h6, .ref h7, .int (md 16), .int (md 17), .int (md 18), .int (md 19), .ref h8])), (h1, .inl (cB, 65536, .inl bf)), (h2, .inl (cI, 512, .inl mp)), (h3, .inl (cI, 512, .inl ml)), (h4, .inl (cJ, 520, .inr (.inl mn))), (h5, .inl (cI, 41, .inl mf)), (h6, .inl (cI, 8192, .inl sp)), (h7, .inl (cI, 8192, .inl sl)), (h8, .inl (cI, 11, .inl et))] := hD
      refine lv_aload_n hx hb d_Md_end_23 rfl (lv_at hl 0 rfl) ?_
      refine va_get (D := D) (ci := 7) (C := R_Md) (T := F_Md) (N := 30) hx hb (kl_Md hK.2) (fun _ h => h) hown hK.1 hP 0 rfl rfl 0 (by decide) (hw kw_310) (fun _ h9 => h9) rfl d_Md_end_24 ?_
      refine lv_if_le (tgt := 32) hx hb d_Md_end_27 (by decide) (fun c => absurd c (by decide)) (fun _ => ?_)
      refine lv_iconst (v := 0) hx hb d_Md_end_30 (by decide) ?_
      have ef : M_Md_end md = (0, (upd md 0 1)) := by unfold M_Md_end; (try dsimp only); rw [if_neg c_1]; rw [if_neg c_2]
      exact ct_iret hx hb hr rfl hlocks d_Md_end_31 ⟨Nat.zero_le _, Nat.zero_le _⟩ hQ hAe hS (0, (upd md 0 1)) rfl ef.symm (hP.sub [0, 1, 2, 3, 4, 5, 6, 7, 8] rfl) (hD.sub [0, 1, 2, 3, 4, 5, 6, 7, 8] rfl rfl)
set_option maxHeartbeats 4000000 in
set_option maxRecDepth 100000 in
theorem c_Md_readTwo {l : Launch} {D : va_G} {cB cI cJ : ClassId} (h0 h1 h2 h3 h4 h5 h6 h7 h8 : Nat) (md : Nat → Int32) (sz : Int32) (fr : Int32) (bf : Nat → Int32) (mp : Nat → Int32) (ml : Nat → Int32) (mn : Nat → Int64) (mf : Nat → Int32) (sp : Nat → Int32) (sl : Nat → Int32) (et : Nat → Int32) (p0 : Int32) (hG : G_Md_readTwo md p0) : CtP classes BW l D (TY cB cI cJ) y_Md_readTwo b_Md_readTwo 2 (some .int) ({ frames := 1, cells := 0, slots := 0, locals := 21 } : Room) [.ref h0, .int p0] [(h0, .inr (7, [.int (md 0), .ref h1, .int sz, .int (md 1), .int (md 2), .int (md 3), .int (md 4), .int (md 5), .int (md 6), .int (md 7), .int (md 8), .int (md 9), .int (md 10), .int (md 11), .int (md 12), .int fr, .int (md 13), .ref h2, .ref h3, .int (md 14), .int (md 15), .ref h4, .ref h5, .ref h6, .ref h7, .int (md 16), .int (md 17), .int (md 18), .int (md 19), .ref h8])), (h1, .inl (cB, 65536, .inl bf)), (h2, .inl (cI, 512, .inl mp)), (h3, .inl (cI, 512, .inl ml)), (h4, .inl (cJ, 520, .inr (.inl mn))), (h5, .inl (cI, 41, .inl mf)), (h6, .inl (cI, 8192, .inl sp)), (h7, .inl (cI, 8192, .inl sl)), (h8, .inl (cI, 11, .inl et))] (some (.int (M_Md_readTwo md bf p0))) := by
  refine CtP.intro (by decide +kernel) (Nat.le_of_ble_eq_true rfl) ?_
  intro p e s m below meth c hx hb hr hml hlocks hnm hown hK hS hP hD ls hl Q hQ
  have hown : s.vm.findClass "PictureFileModel" = some m.cls := hown
  have hH : Hold classes BW D (TY cB cI cJ) p s m c b_Md_readTwo 2 "PictureFileModel" := ⟨bw_ok, hx, hb, hml, hown, hK⟩
  have hw : ∀ {w : Cond}, w ∈ BW → w.before ([.ref h0, .int p0] : List Value).toArray s = true := fun h => Wd.at bw_ok hK.2 h
  have hl : lv_has ls 2 [(0, .ref h0), (1, .int p0)] := hl
  unfold G_Md_readTwo at hG
  refine lv_aload_n hx hb d_Md_readTwo_0 rfl (lv_at hl 0 rfl) ?_
  refine va_get (D := D) (ci := 7) (C := R_Md) (T := F_Md) (N := 30) hx hb (kl_Md hK.2) (fun _ h => h) hown hK.1 hP 0 rfl rfl 19 (by decide) (hw kw_361) (fun _ h9 => h9) rfl d_Md_readTwo_1 ?_
  refine lv_bipush (v := 77) hx hb d_Md_readTwo_4 (by decide) ?_
  refine lv_icmp_ne (tgt := 29) hx hb d_Md_readTwo_6 (by decide) (fun c_1 => ?_) (fun c_1 => ?_)
  · replace hG := gp_neg c_1 hG
    refine lv_aload_n hx hb d_Md_readTwo_29 rfl (lv_at hl 0 rfl) ?_
    refine lv_iload_n hx hb d_Md_readTwo_30 rfl (lv_at hl 1 rfl) ?_
    obtain ⟨g_2, hG⟩ := hG
    refine ct_finP (ct_runV (n := 1) (C := R_Md) (b := h0) (As := [.int p0]) (rest := []) hH (c_Md_at h0 h1 h2 h3 h4 h5 h6 h7 h8 md sz fr bf mp ml mn mf sp sl et p0 g_2 _) ⟨cal_Md_at, ⟨Nat.le_of_ble_eq_true rfl, Nat.le_of_ble_eq_true rfl⟩, (Nat.le_of_ble_eq_true rfl), (Nat.le_of_ble_eq_true rfl)⟩ kw_342 kw_343 kw_316 kw_344 kw_345 (va_recv hK.1 hP (ci := 7) (q0 := 0) rfl rfl) (hP.sub (ws' := [(h0, .inr (7, [.int (md 0), .ref h1, .int sz, .int (md 1), .int (md 2), .int (md 3), .int (md 4), .int (md 5), .int (md 6), .int (md 7), .int (md 8), .int (md 9), .int (md 10), .int (md 11), .int (md 12), .int fr, .int (md 13), .ref h2, .ref h3, .int (md 14), .int (md 15), .ref h4, .ref h5, .ref h6, .ref h7, .int (md 16), .int (md 17), .int (md 18), .int (md 19), .ref h8])), (h1, .inl (cB, 65536, .inl bf)), (h2, .inl (cI, 512, .inl mp)), (h3, .inl (cI, 512, .inl ml)), (h4, .inl (cJ, 520, .inr (.inl mn))), (h5, .inl (cI, 41, .inl mf)), (h6, .inl (cI, 8192, .inl sp)), (h7, .inl (cI, 8192, .inl sl)), (h8, .inl (cI, 11, .inl et))]) [0, 1, 2, 3, 4, 5, 6, 7, 8] rfl) (hD.sub (ws' := [(h0, .inr (7, [.int (md 0), .ref h1, .int sz, .int (md 1), .int (md 2), .int (md 3), .int (md 4), .int (md 5), .int (md 6), .int (md 7), .int (md 8), .int (md 9), .int (md 10), .int (md 11), .int (md 12), .int fr, .int (md 13), .ref h2, .ref h3, .int (md 14), .int (md 15), .ref h4, .ref h5, .ref h6, .ref h7, .int (md 16), .int (md 17), .int (md 18), .int (md 19), .ref h8])), (h1, .inl (cB, 65536, .inl bf)), (h2, .inl (cI, 512, .inl mp)), (h3, .inl (cI, 512, .inl ml)), (h4, .inl (cJ, 520, .inr (.inl mn))), (h5, .inl (cI, 41, .inl mf)), (h6, .inl (cI, 8192, .inl sp)), (h7, .inl (cI, 8192, .inl sl)), (h8, .inl (cI, 11, .inl et))]) [0, 1, 2, 3, 4, 5, 6, 7, 8] rfl rfl) rfl hl.1 (Nat.le_of_ble_eq_true rfl) d_Md_readTwo_31) hP hS (fun H hP hS => ?_)
    refine W.eq (g2 := F0 m 34 ls [.int (M_Md_at bf p0)]) rfl ?_
    refine lv_sipush (v := 256) hx hb d_Md_readTwo_34 (by decide) ?_
    refine lv_aload_n hx hb d_Md_readTwo_37 rfl (lv_at hl 0 rfl) ?_
    refine lv_iload_n hx hb d_Md_readTwo_38 rfl (lv_at hl 1 rfl) ?_
    refine lv_iconst (v := 1) hx hb d_Md_readTwo_39 (by decide) ?_
    refine lv_iadd hx hb d_Md_readTwo_40 ?_
    have g_3 := hG
    refine ct_finP (ct_runV (n := 1) (C := R_Md) (b := h0) (As := [.int (p0 + 1)]) (rest := [.int 256, .int (M_Md_at bf p0)]) hH (c_Md_at h0 h1 h2 h3 h4 h5 h6 h7 h8 md sz fr bf mp ml mn mf sp sl et (p0 + 1) g_3 _) ⟨cal_Md_at, ⟨Nat.le_of_ble_eq_true rfl, Nat.le_of_ble_eq_true rfl⟩, (Nat.le_of_ble_eq_true rfl), (Nat.le_of_ble_eq_true rfl)⟩ kw_342 kw_343 kw_316 kw_344 kw_345 (va_recv hK.1 hP (ci := 7) (q0 := 0) rfl rfl) (hP.sub (ws' := [(h0, .inr (7, [.int (md 0), .ref h1, .int sz, .int (md 1), .int (md 2), .int (md 3), .int (md 4), .int (md 5), .int (md 6), .int (md 7), .int (md 8), .int (md 9), .int (md 10), .int (md 11), .int (md 12), .int fr, .int (md 13), .ref h2, .ref h3, .int (md 14), .int (md 15), .ref h4, .ref h5, .ref h6, .ref h7, .int (md 16), .int (md 17), .int (md 18), .int (md 19), .ref h8])), (h1, .inl (cB, 65536, .inl bf)), (h2, .inl (cI, 512, .inl mp)), (h3, .inl (cI, 512, .inl ml)), (h4, .inl (cJ, 520, .inr (.inl mn))), (h5, .inl (cI, 41, .inl mf)), (h6, .inl (cI, 8192, .inl sp)), (h7, .inl (cI, 8192, .inl sl)), (h8, .inl (cI, 11, .inl et))]) [0, 1, 2, 3, 4, 5, 6, 7, 8] rfl) (hD.sub (ws' := [(h0, .inr (7, [.int (md 0), .ref h1, .int sz, .int (md 1), .int (md 2), .int (md 3), .int (md 4), .int (md 5), .int (md 6), .int (md 7), .int (md 8), .int (md 9), .int (md 10), .int (md 11), .int (md 12), .int fr, .int (md 13), .ref h2, .ref h3, .int (md 14), .int (md 15), .ref h4, .ref h5, .ref h6, .ref h7, .int (md 16), .int (md 17), .int (md 18), .int (md 19), .ref h8])), (h1, .inl (cB, 65536, .inl bf)), (h2, .inl (cI, 512, .inl mp)), (h3, .inl (cI, 512, .inl ml)), (h4, .inl (cJ, 520, .inr (.inl mn))), (h5, .inl (cI, 41, .inl mf)), (h6, .inl (cI, 8192, .inl sp)), (h7, .inl (cI, 8192, .inl sl)), (h8, .inl (cI, 11, .inl et))]) [0, 1, 2, 3, 4, 5, 6, 7, 8] rfl rfl) rfl hl.1 (Nat.le_of_ble_eq_true rfl) d_Md_readTwo_41) hP hS (fun H hP hS => ?_)
    refine W.eq (g2 := F0 m 44 ls [.int (M_Md_at bf (p0 + 1)), .int 256, .int (M_Md_at bf p0)]) rfl ?_
    refine lv_imul hx hb d_Md_readTwo_44 ?_
    refine lv_iadd hx hb d_Md_readTwo_45 ?_
    have ef : M_Md_readTwo md bf p0 = ((M_Md_at bf p0) + (256 * (M_Md_at bf (p0 + 1)))) := by unfold M_Md_readTwo; (try dsimp only); rw [if_neg c_1]
    exact ct_piret hx hb hr rfl hlocks d_Md_readTwo_46 hQ hS (by rw [ef])
  · replace hG := gp_pos c_1 hG
    refine lv_sipush (v := 256) hx hb d_Md_readTwo_9 (by decide) ?_
    refine lv_aload_n hx hb d_Md_readTwo_12 rfl (lv_at hl 0 rfl) ?_
    refine lv_iload_n hx hb d_Md_readTwo_13 rfl (lv_at hl 1 rfl) ?_
    obtain ⟨g_5, hG⟩ := hG
    refine ct_finP (ct_runV (n := 1) (C := R_Md) (b := h0) (As := [.int p0]) (rest := [.int 256]) hH (c_Md_at h0 h1 h2 h3 h4 h5 h6 h7 h8 md sz fr bf mp ml mn mf sp sl et p0 g_5 _) ⟨cal_Md_at, ⟨Nat.le_of_ble_eq_true rfl, Nat.le_of_ble_eq_true rfl⟩, (Nat.le_of_ble_eq_true rfl), (Nat.le_of_ble_eq_true rfl)⟩ kw_342 kw_343 kw_316 kw_344 kw_345 (va_recv hK.1 hP (ci := 7) (q0 := 0) rfl rfl) (hP.sub (ws' := [(h0, .inr (7, [.int (md 0), .ref h1, .int sz, .int (md 1), .int (md 2), .int (md 3), .int (md 4), .int (md 5), .int (md 6), .int (md 7), .int (md 8), .int (md 9), .int (md 10), .int (md 11), .int (md 12), .int fr, .int (md 13), .ref h2, .ref h3, .int (md 14), .int (md 15), .ref h4, .ref h5, .ref h6, .ref h7, .int (md 16), .int (md 17), .int (md 18), .int (md 19), .ref h8])), (h1, .inl (cB, 65536, .inl bf)), (h2, .inl (cI, 512, .inl mp)), (h3, .inl (cI, 512, .inl ml)), (h4, .inl (cJ, 520, .inr (.inl mn))), (h5, .inl (cI, 41, .inl mf)), (h6, .inl (cI, 8192, .inl sp)), (h7, .inl (cI, 8192, .inl sl)), (h8, .inl (cI, 11, .inl et))]) [0, 1, 2, 3, 4, 5, 6, 7, 8] rfl) (hD.sub (ws' := [(h0, .inr (7, [.int (md 0), .ref h1, .int sz, .int (md 1), .int (md 2), .int (md 3), .int (md 4), .int (md 5), .int (md 6), .int (md 7), .int (md 8), .int (md 9), .int (md 10), .int (md 11), .int (md 12), .int fr, .int (md 13), .ref h2, .ref h3, .int (md 14), .int (md 15), .ref h4, .ref h5, .ref h6, .ref h7, .int (md 16), .int (md 17), .int (md 18), .int (md 19), .ref h8])), (h1, .inl (cB, 65536, .inl bf)), (h2, .inl (cI, 512, .inl mp)), (h3, .inl (cI, 512, .inl ml)), (h4, .inl (cJ, 520, .inr (.inl mn))), (h5, .inl (cI, 41, .inl mf)), (h6, .inl (cI, 8192, .inl sp)), (h7, .inl (cI, 8192, .inl sl)), (h8, .inl (cI, 11, .inl et))]) [0, 1, 2, 3, 4, 5, 6, 7, 8] rfl rfl) rfl hl.1 (Nat.le_of_ble_eq_true rfl) d_Md_readTwo_14) hP hS (fun H hP hS => ?_)
    refine W.eq (g2 := F0 m 17 ls [.int (M_Md_at bf p0), .int 256]) rfl ?_
    refine lv_imul hx hb d_Md_readTwo_17 ?_
    refine lv_aload_n hx hb d_Md_readTwo_18 rfl (lv_at hl 0 rfl) ?_
    refine lv_iload_n hx hb d_Md_readTwo_19 rfl (lv_at hl 1 rfl) ?_
    refine lv_iconst (v := 1) hx hb d_Md_readTwo_20 (by decide) ?_
    refine lv_iadd hx hb d_Md_readTwo_21 ?_
    have g_6 := hG
    refine ct_finP (ct_runV (n := 1) (C := R_Md) (b := h0) (As := [.int (p0 + 1)]) (rest := [.int (256 * (M_Md_at bf p0))]) hH (c_Md_at h0 h1 h2 h3 h4 h5 h6 h7 h8 md sz fr bf mp ml mn mf sp sl et (p0 + 1) g_6 _) ⟨cal_Md_at, ⟨Nat.le_of_ble_eq_true rfl, Nat.le_of_ble_eq_true rfl⟩, (Nat.le_of_ble_eq_true rfl), (Nat.le_of_ble_eq_true rfl)⟩ kw_342 kw_343 kw_316 kw_344 kw_345 (va_recv hK.1 hP (ci := 7) (q0 := 0) rfl rfl) (hP.sub (ws' := [(h0, .inr (7, [.int (md 0), .ref h1, .int sz, .int (md 1), .int (md 2), .int (md 3), .int (md 4), .int (md 5), .int (md 6), .int (md 7), .int (md 8), .int (md 9), .int (md 10), .int (md 11), .int (md 12), .int fr, .int (md 13), .ref h2, .ref h3, .int (md 14), .int (md 15), .ref h4, .ref h5, .ref h6, .ref h7, .int (md 16), .int (md 17), .int (md 18), .int (md 19), .ref h8])), (h1, .inl (cB, 65536, .inl bf)), (h2, .inl (cI, 512, .inl mp)), (h3, .inl (cI, 512, .inl ml)), (h4, .inl (cJ, 520, .inr (.inl mn))), (h5, .inl (cI, 41, .inl mf)), (h6, .inl (cI, 8192, .inl sp)), (h7, .inl (cI, 8192, .inl sl)), (h8, .inl (cI, 11, .inl et))]) [0, 1, 2, 3, 4, 5, 6, 7, 8] rfl) (hD.sub (ws' := [(h0, .inr (7, [.int (md 0), .ref h1, .int sz, .int (md 1), .int (md 2), .int (md 3), .int (md 4), .int (md 5), .int (md 6), .int (md 7), .int (md 8), .int (md 9), .int (md 10), .int (md 11), .int (md 12), .int fr, .int (md 13), .ref h2, .ref h3, .int (md 14), .int (md 15), .ref h4, .ref h5, .ref h6, .ref h7, .int (md 16), .int (md 17), .int (md 18), .int (md 19), .ref h8])), (h1, .inl (cB, 65536, .inl bf)), (h2, .inl (cI, 512, .inl mp)), (h3, .inl (cI, 512, .inl ml)), (h4, .inl (cJ, 520, .inr (.inl mn))), (h5, .inl (cI, 41, .inl mf)), (h6, .inl (cI, 8192, .inl sp)), (h7, .inl (cI, 8192, .inl sl)), (h8, .inl (cI, 11, .inl et))]) [0, 1, 2, 3, 4, 5, 6, 7, 8] rfl rfl) rfl hl.1 (Nat.le_of_ble_eq_true rfl) d_Md_readTwo_22) hP hS (fun H hP hS => ?_)
    refine W.eq (g2 := F0 m 25 ls [.int (M_Md_at bf (p0 + 1)), .int (256 * (M_Md_at bf p0))]) rfl ?_
    refine lv_iadd hx hb d_Md_readTwo_25 ?_
    refine lv_goto (tgt := 46) hx hb d_Md_readTwo_26 (by decide) ?_
    have ef : M_Md_readTwo md bf p0 = ((256 * (M_Md_at bf p0)) + (M_Md_at bf (p0 + 1))) := by unfold M_Md_readTwo; (try dsimp only); rw [if_pos c_1]
    exact ct_piret hx hb hr rfl hlocks d_Md_readTwo_46 hQ hS (by rw [ef])
set_option maxHeartbeats 4000000 in
set_option maxRecDepth 100000 in
theorem c_Md_readFour {l : Launch} {D : va_G} {cB cI cJ : ClassId} (h0 h1 h2 h3 h4 h5 h6 h7 h8 : Nat) (md : Nat → Int32) (sz : Int32) (fr : Int32) (bf : Nat → Int32) (mp : Nat → Int32) (ml : Nat → Int32) (mn : Nat → Int64) (mf : Nat → Int32) (sp : Nat → Int32) (sl : Nat → Int32) (et : Nat → Int32) (p0 : Int32) (hG : G_Md_readFour md bf p0) : CtP classes BW l D (TY cB cI cJ) y_Md_readFour b_Md_readFour 6 (some .long) ({ frames := 2, cells := 0, slots := 0, locals := 42 } : Room) [.ref h0, .int p0] [(h0, .inr (7, [.int (md 0), .ref h1, .int sz, .int (md 1), .int (md 2), .int (md 3), .int (md 4), .int (md 5), .int (md 6), .int (md 7), .int (md 8), .int (md 9), .int (md 10), .int (md 11), .int (md 12), .int fr, .int (md 13), .ref h2, .ref h3, .int (md 14), .int (md 15), .ref h4, .ref h5, .ref h6, .ref h7, .int (md 16), .int (md 17), .int (md 18), .int (md 19), .ref h8])), (h1, .inl (cB, 65536, .inl bf)), (h2, .inl (cI, 512, .inl mp)), (h3, .inl (cI, 512, .inl ml)), (h4, .inl (cJ, 520, .inr (.inl mn))), (h5, .inl (cI, 41, .inl mf)), (h6, .inl (cI, 8192, .inl sp)), (h7, .inl (cI, 8192, .inl sl)), (h8, .inl (cI, 11, .inl et))] (some (.long (M_Md_readFour md bf p0))) := by
  refine CtP.intro (by decide +kernel) (Nat.le_of_ble_eq_true rfl) ?_
  intro p e s m below meth c hx hb hr hml hlocks hnm hown hK hS hP hD ls hl Q hQ
  have hown : s.vm.findClass "PictureFileModel" = some m.cls := hown
  have hH : Hold classes BW D (TY cB cI cJ) p s m c b_Md_readFour 6 "PictureFileModel" := ⟨bw_ok, hx, hb, hml, hown, hK⟩
  have hw : ∀ {w : Cond}, w ∈ BW → w.before ([.ref h0, .int p0] : List Value).toArray s = true := fun h => Wd.at bw_ok hK.2 h
  have hl : lv_has ls 6 [(0, .ref h0), (1, .int p0)] := hl
  unfold G_Md_readFour at hG
  refine lv_aload_n hx hb d_Md_readFour_0 rfl (lv_at hl 0 rfl) ?_
  refine lv_iload_n hx hb d_Md_readFour_1 rfl (lv_at hl 1 rfl) ?_
  obtain ⟨g_1, hG⟩ := hG
  refine ct_finP (ct_runV (n := 1) (C := R_Md) (b := h0) (As := [.int p0]) (rest := []) hH (c_Md_readTwo h0 h1 h2 h3 h4 h5 h6 h7 h8 md sz fr bf mp ml mn mf sp sl et p0 g_1 _) ⟨cal_Md_readTwo, ⟨Nat.le_of_ble_eq_true rfl, Nat.le_of_ble_eq_true rfl⟩, (Nat.le_of_ble_eq_true rfl), (Nat.le_of_ble_eq_true rfl)⟩ kw_362 kw_363 kw_316 kw_364 kw_365 (va_recv hK.1 hP (ci := 7) (q0 := 0) rfl rfl) (hP.sub (ws' := [(h0, .inr (7, [.int (md 0), .ref h1, .int sz, .int (md 1), .int (md 2), .int (md 3), .int (md 4), .int (md 5), .int (md 6), .int (md 7), .int (md 8), .int (md 9), .int (md 10), .int (md 11), .int (md 12), .int fr, .int (md 13), .ref h2, .ref h3, .int (md 14), .int (md 15), .ref h4, .ref h5, .ref h6, .ref h7, .int (md 16), .int (md 17), .int (md 18), .int (md 19), .ref h8])), (h1, .inl (cB, 65536, .inl bf)), (h2, .inl (cI, 512, .inl mp)), (h3, .inl (cI, 512, .inl ml)), (h4, .inl (cJ, 520, .inr (.inl mn))), (h5, .inl (cI, 41, .inl mf)), (h6, .inl (cI, 8192, .inl sp)), (h7, .inl (cI, 8192, .inl sl)), (h8, .inl (cI, 11, .inl et))]) [0, 1, 2, 3, 4, 5, 6, 7, 8] rfl) (hD.sub (ws' := [(h0, .inr (7, [.int (md 0), .ref h1, .int sz, .int (md 1), .int (md 2), .int (md 3), .int (md 4), .int (md 5), .int (md 6), .int (md 7), .int (md 8), .int (md 9), .int (md 10), .int (md 11), .int (md 12), .int fr, .int (md 13), .ref h2, .ref h3, .int (md 14), .int (md 15), .ref h4, .ref h5, .ref h6, .ref h7, .int (md 16), .int (md 17), .int (md 18), .int (md 19), .ref h8])), (h1, .inl (cB, 65536, .inl bf)), (h2, .inl (cI, 512, .inl mp)), (h3, .inl (cI, 512, .inl ml)), (h4, .inl (cJ, 520, .inr (.inl mn))), (h5, .inl (cI, 41, .inl mf)), (h6, .inl (cI, 8192, .inl sp)), (h7, .inl (cI, 8192, .inl sl)), (h8, .inl (cI, 11, .inl et))]) [0, 1, 2, 3, 4, 5, 6, 7, 8] rfl rfl) rfl hl.1 (Nat.le_of_ble_eq_true rfl) d_Md_readFour_2) hP hS (fun H hP hS => ?_)
  refine W.eq (g2 := F0 m 5 ls [.int (M_Md_readTwo md bf p0)]) rfl ?_
  refine lv_i2l hx hb d_Md_readFour_5 rfl ?_
  refine lv_topl (fun y1 e1 => ?_)
  replace hG := hG y1 e1
  refine lv_lstore_n (lv' := [(2, .long y1), (0, .ref h0), (1, .int p0)]) hx hb d_Md_readFour_6 rfl hl (by decide) rfl (fun ls hl => ?_)
  refine lv_aload_n hx hb d_Md_readFour_7 rfl (lv_at hl 1 rfl) ?_
  refine lv_iload_n hx hb d_Md_readFour_8 rfl (lv_at hl 2 rfl) ?_
  refine lv_iconst (v := 2) hx hb d_Md_readFour_9 (by decide) ?_
  refine lv_iadd hx hb d_Md_readFour_10 ?_
  have g_3 := hG
  refine ct_finP (ct_runV (n := 1) (C := R_Md) (b := h0) (As := [.int (p0 + 2)]) (rest := []) hH (c_Md_readTwo h0 h1 h2 h3 h4 h5 h6 h7 h8 md sz fr bf mp ml mn mf sp sl et (p0 + 2) g_3 _) ⟨cal_Md_readTwo, ⟨Nat.le_of_ble_eq_true rfl, Nat.le_of_ble_eq_true rfl⟩, (Nat.le_of_ble_eq_true rfl), (Nat.le_of_ble_eq_true rfl)⟩ kw_362 kw_363 kw_316 kw_364 kw_365 (va_recv hK.1 hP (ci := 7) (q0 := 0) rfl rfl) (hP.sub (ws' := [(h0, .inr (7, [.int (md 0), .ref h1, .int sz, .int (md 1), .int (md 2), .int (md 3), .int (md 4), .int (md 5), .int (md 6), .int (md 7), .int (md 8), .int (md 9), .int (md 10), .int (md 11), .int (md 12), .int fr, .int (md 13), .ref h2, .ref h3, .int (md 14), .int (md 15), .ref h4, .ref h5, .ref h6, .ref h7, .int (md 16), .int (md 17), .int (md 18), .int (md 19), .ref h8])), (h1, .inl (cB, 65536, .inl bf)), (h2, .inl (cI, 512, .inl mp)), (h3, .inl (cI, 512, .inl ml)), (h4, .inl (cJ, 520, .inr (.inl mn))), (h5, .inl (cI, 41, .inl mf)), (h6, .inl (cI, 8192, .inl sp)), (h7, .inl (cI, 8192, .inl sl)), (h8, .inl (cI, 11, .inl et))]) [0, 1, 2, 3, 4, 5, 6, 7, 8] rfl) (hD.sub (ws' := [(h0, .inr (7, [.int (md 0), .ref h1, .int sz, .int (md 1), .int (md 2), .int (md 3), .int (md 4), .int (md 5), .int (md 6), .int (md 7), .int (md 8), .int (md 9), .int (md 10), .int (md 11), .int (md 12), .int fr, .int (md 13), .ref h2, .ref h3, .int (md 14), .int (md 15), .ref h4, .ref h5, .ref h6, .ref h7, .int (md 16), .int (md 17), .int (md 18), .int (md 19), .ref h8])), (h1, .inl (cB, 65536, .inl bf)), (h2, .inl (cI, 512, .inl mp)), (h3, .inl (cI, 512, .inl ml)), (h4, .inl (cJ, 520, .inr (.inl mn))), (h5, .inl (cI, 41, .inl mf)), (h6, .inl (cI, 8192, .inl sp)), (h7, .inl (cI, 8192, .inl sl)), (h8, .inl (cI, 11, .inl et))]) [0, 1, 2, 3, 4, 5, 6, 7, 8] rfl rfl) rfl hl.1 (Nat.le_of_ble_eq_true rfl) d_Md_readFour_11) hP hS (fun H hP hS => ?_)
  refine W.eq (g2 := F0 m 14 ls [.int (M_Md_readTwo md bf (p0 + 2))]) rfl ?_
  refine lv_i2l hx hb d_Md_readFour_14 rfl ?_
  refine lv_topl (fun y2 e2 => ?_)
  refine lv_lstore (lv' := [(4, .long y2), (2, .long y1), (0, .ref h0), (1, .int p0)]) hx hb d_Md_readFour_15 hl (by decide) rfl (fun ls hl => ?_)
  refine lv_aload_n hx hb d_Md_readFour_17 rfl (lv_at hl 2 rfl) ?_
  refine va_get (D := D) (ci := 7) (C := R_Md) (T := F_Md) (N := 30) hx hb (kl_Md hK.2) (fun _ h => h) hown hK.1 hP 0 rfl rfl 19 (by decide) (hw kw_361) (fun _ h9 => h9) rfl d_Md_readFour_18 ?_
  refine lv_bipush (v := 77) hx hb d_Md_readFour_21 (by decide) ?_
  refine lv_icmp_ne (tgt := 37) hx hb d_Md_readFour_23 (by decide) (fun c_1 => ?_) (fun c_1 => ?_)
  · skip
    refine lv_lload_n hx hb d_Md_readFour_37 rfl (lv_at hl 1 rfl) ?_
    refine lv_ldc2 (v := 65536) hx hb hown (hw kw_366) d_Md_readFour_38 ?_
    refine lv_lload hx hb d_Md_readFour_41 (lv_at hl 0 rfl) ?_
    refine lv_lmul hx hb d_Md_readFour_43 ?_
    refine lv_ladd hx hb d_Md_readFour_44 ?_
    have ef : M_Md_readFour md bf p0 = (y1 + (65536 * y2)) := by unfold M_Md_readFour; (try dsimp only); (try rw [← e1]); (try rw [← e2]); rw [if_neg c_1]
    exact ct_plret hx hb hr hlocks d_Md_readFour_45 hQ hS (by rw [ef])
  · skip
    refine lv_ldc2 (v := 65536) hx hb hown (hw kw_366) d_Md_readFour_26 ?_
    refine lv_lload_n hx hb d_Md_readFour_29 rfl (lv_at hl 1 rfl) ?_
    refine lv_lmul hx hb d_Md_readFour_30 ?_
    refine lv_lload hx hb d_Md_readFour_31 (lv_at hl 0 rfl) ?_
    refine lv_ladd hx hb d_Md_readFour_33 ?_
    refine lv_goto (tgt := 45) hx hb d_Md_readFour_34 (by decide) ?_
    have ef : M_Md_readFour md bf p0 = ((65536 * y1) + y2) := by unfold M_Md_readFour; (try dsimp only); (try rw [← e1]); (try rw [← e2]); rw [if_pos c_1]
    exact ct_plret hx hb hr hlocks d_Md_readFour_45 hQ hS (by rw [ef])
set_option maxHeartbeats 4000000 in
set_option maxRecDepth 100000 in
theorem c_Md_known {l : Launch} {D : va_G} {cB cI cJ : ClassId} (p0 : Int32) : CtP classes BW l D (TY cB cI cJ) y_Md_known b_Md_known 1 (some .int) ({ frames := 0, cells := 0, slots := 0, locals := 0 } : Room) [.int p0] [] (some (.int (M_Md_known p0))) := by
  refine CtP.intro (by decide +kernel) (Nat.le_of_ble_eq_true rfl) ?_
  intro p e s m below meth c hx hb hr hml hlocks hnm hown hK hS hP hD ls hl Q hQ
  have hown : s.vm.findClass "PictureFileModel" = some m.cls := hown
  have hH : Hold classes BW D (TY cB cI cJ) p s m c b_Md_known 1 "PictureFileModel" := ⟨bw_ok, hx, hb, hml, hown, hK⟩
  have hw : ∀ {w : Cond}, w ∈ BW → w.before ([.int p0] : List Value).toArray s = true := fun h => Wd.at bw_ok hK.2 h
  have hl : lv_has ls 1 [(0, .int p0)] := hl
  refine lv_iload_n hx hb d_Md_known_0 rfl (lv_at hl 0 rfl) ?_
  by_cases c_1 : p0 = 256
  · skip
    refine lv_tableIn (tgt := 180) (off := 179) hx hb d_Md_known_1 (by rw [c_1]; decide) (by rw [c_1]; decide) (by rw [c_1]; rfl) (by decide) ?_
    refine lv_iconst (v := 0) hx hb d_Md_known_180 (by decide) ?_
    have ef : M_Md_known p0 = 0 := by unfold M_Md_known; (try dsimp only); rw [if_pos c_1]
    exact ct_piret hx hb hr rfl hlocks d_Md_known_181 hQ hS (by rw [ef])
  by_cases c_2 : p0 = 257
  · skip
    refine lv_tableIn (tgt := 182) (off := 181) hx hb d_Md_known_1 (by rw [c_2]; decide) (by rw [c_2]; decide) (by rw [c_2]; rfl) (by decide) ?_
    refine lv_iconst (v := 1) hx hb d_Md_known_182 (by decide) ?_
    have ef : M_Md_known p0 = 1 := by unfold M_Md_known; (try dsimp only); rw [if_neg c_1]; rw [if_pos c_2]
    exact ct_piret hx hb hr rfl hlocks d_Md_known_183 hQ hS (by rw [ef])
  by_cases c_3 : p0 = 259
  · skip
    refine lv_tableIn (tgt := 184) (off := 183) hx hb d_Md_known_1 (by rw [c_3]; decide) (by rw [c_3]; decide) (by rw [c_3]; rfl) (by decide) ?_
    refine lv_iconst (v := 2) hx hb d_Md_known_184 (by decide) ?_
    have ef : M_Md_known p0 = 2 := by unfold M_Md_known; (try dsimp only); rw [if_neg c_1]; rw [if_neg c_2]; rw [if_pos c_3]
    exact ct_piret hx hb hr rfl hlocks d_Md_known_185 hQ hS (by rw [ef])
  by_cases c_4 : p0 = 262
  · skip
    refine lv_tableIn (tgt := 186) (off := 185) hx hb d_Md_known_1 (by rw [c_4]; decide) (by rw [c_4]; decide) (by rw [c_4]; rfl) (by decide) ?_
    refine lv_iconst (v := 3) hx hb d_Md_known_186 (by decide) ?_
    have ef : M_Md_known p0 = 3 := by unfold M_Md_known; (try dsimp only); rw [if_neg c_1]; rw [if_neg c_2]; rw [if_neg c_3]; rw [if_pos c_4]
    exact ct_piret hx hb hr rfl hlocks d_Md_known_187 hQ hS (by rw [ef])
  by_cases c_5 : p0 = 266
  · skip
    refine lv_tableIn (tgt := 188) (off := 187) hx hb d_Md_known_1 (by rw [c_5]; decide) (by rw [c_5]; decide) (by rw [c_5]; rfl) (by decide) ?_
    refine lv_iconst (v := 4) hx hb d_Md_known_188 (by decide) ?_
    have ef : M_Md_known p0 = 4 := by unfold M_Md_known; (try dsimp only); rw [if_neg c_1]; rw [if_neg c_2]; rw [if_neg c_3]; rw [if_neg c_4]; rw [if_pos c_5]
    exact ct_piret hx hb hr rfl hlocks d_Md_known_189 hQ hS (by rw [ef])
  by_cases c_6 : p0 = 273
  · skip
    refine lv_tableIn (tgt := 201) (off := 200) hx hb d_Md_known_1 (by rw [c_6]; decide) (by rw [c_6]; decide) (by rw [c_6]; rfl) (by decide) ?_
    refine lv_bipush (v := 9) hx hb d_Md_known_201 (by decide) ?_
    have ef : M_Md_known p0 = 9 := by unfold M_Md_known; (try dsimp only); rw [if_neg c_1]; rw [if_neg c_2]; rw [if_neg c_3]; rw [if_neg c_4]; rw [if_neg c_5]; rw [if_pos c_6]
    exact ct_piret hx hb hr rfl hlocks d_Md_known_203 hQ hS (by rw [ef])
  by_cases c_7 : p0 = 278
  · skip
    refine lv_tableIn (tgt := 190) (off := 189) hx hb d_Md_known_1 (by rw [c_7]; decide) (by rw [c_7]; decide) (by rw [c_7]; rfl) (by decide) ?_
    refine lv_iconst (v := 5) hx hb d_Md_known_190 (by decide) ?_
    have ef : M_Md_known p0 = 5 := by unfold M_Md_known; (try dsimp only); rw [if_neg c_1]; rw [if_neg c_2]; rw [if_neg c_3]; rw [if_neg c_4]; rw [if_neg c_5]; rw [if_neg c_6]; rw [if_pos c_7]
    exact ct_piret hx hb hr rfl hlocks d_Md_known_191 hQ hS (by rw [ef])
  by_cases c_8 : p0 = 279
  · skip
    refine lv_tableIn (tgt := 204) (off := 203) hx hb d_Md_known_1 (by rw [c_8]; decide) (by rw [c_8]; decide) (by rw [c_8]; rfl) (by decide) ?_
    refine lv_bipush (v := 10) hx hb d_Md_known_204 (by decide) ?_
    have ef : M_Md_known p0 = 10 := by unfold M_Md_known; (try dsimp only); rw [if_neg c_1]; rw [if_neg c_2]; rw [if_neg c_3]; rw [if_neg c_4]; rw [if_neg c_5]; rw [if_neg c_6]; rw [if_neg c_7]; rw [if_pos c_8]
    exact ct_piret hx hb hr rfl hlocks d_Md_known_206 hQ hS (by rw [ef])
  by_cases c_9 : p0 = 282
  · skip
    refine lv_tableIn (tgt := 195) (off := 194) hx hb d_Md_known_1 (by rw [c_9]; decide) (by rw [c_9]; decide) (by rw [c_9]; rfl) (by decide) ?_
    refine lv_bipush (v := 7) hx hb d_Md_known_195 (by decide) ?_
    have ef : M_Md_known p0 = 7 := by unfold M_Md_known; (try dsimp only); rw [if_neg c_1]; rw [if_neg c_2]; rw [if_neg c_3]; rw [if_neg c_4]; rw [if_neg c_5]; rw [if_neg c_6]; rw [if_neg c_7]; rw [if_neg c_8]; rw [if_pos c_9]
    exact ct_piret hx hb hr rfl hlocks d_Md_known_197 hQ hS (by rw [ef])
  by_cases c_10 : p0 = 283
  · skip
    refine lv_tableIn (tgt := 198) (off := 197) hx hb d_Md_known_1 (by rw [c_10]; decide) (by rw [c_10]; decide) (by rw [c_10]; rfl) (by decide) ?_
    refine lv_bipush (v := 8) hx hb d_Md_known_198 (by decide) ?_
    have ef : M_Md_known p0 = 8 := by unfold M_Md_known; (try dsimp only); rw [if_neg c_1]; rw [if_neg c_2]; rw [if_neg c_3]; rw [if_neg c_4]; rw [if_neg c_5]; rw [if_neg c_6]; rw [if_neg c_7]; rw [if_neg c_8]; rw [if_neg c_9]; rw [if_pos c_10]
    exact ct_piret hx hb hr rfl hlocks d_Md_known_200 hQ hS (by rw [ef])
  by_cases c_11 : p0 = 296
  · skip
    refine lv_tableIn (tgt := 192) (off := 191) hx hb d_Md_known_1 (by rw [c_11]; decide) (by rw [c_11]; decide) (by rw [c_11]; rfl) (by decide) ?_
    refine lv_bipush (v := 6) hx hb d_Md_known_192 (by decide) ?_
    have ef : M_Md_known p0 = 6 := by unfold M_Md_known; (try dsimp only); rw [if_neg c_1]; rw [if_neg c_2]; rw [if_neg c_3]; rw [if_neg c_4]; rw [if_neg c_5]; rw [if_neg c_6]; rw [if_neg c_7]; rw [if_neg c_8]; rw [if_neg c_9]; rw [if_neg c_10]; rw [if_pos c_11]
    exact ct_piret hx hb hr rfl hlocks d_Md_known_194 hQ hS (by rw [ef])
  have nc_1 : ¬ p0.toInt = 256 := fun h => c_1 (Int32.toInt_inj.mp h)
  have nc_2 : ¬ p0.toInt = 257 := fun h => c_2 (Int32.toInt_inj.mp h)
  have nc_3 : ¬ p0.toInt = 259 := fun h => c_3 (Int32.toInt_inj.mp h)
  have nc_4 : ¬ p0.toInt = 262 := fun h => c_4 (Int32.toInt_inj.mp h)
  have nc_5 : ¬ p0.toInt = 266 := fun h => c_5 (Int32.toInt_inj.mp h)
  have nc_6 : ¬ p0.toInt = 273 := fun h => c_6 (Int32.toInt_inj.mp h)
  have nc_7 : ¬ p0.toInt = 278 := fun h => c_7 (Int32.toInt_inj.mp h)
  have nc_8 : ¬ p0.toInt = 279 := fun h => c_8 (Int32.toInt_inj.mp h)
  have nc_9 : ¬ p0.toInt = 282 := fun h => c_9 (Int32.toInt_inj.mp h)
  have nc_10 : ¬ p0.toInt = 283 := fun h => c_10 (Int32.toInt_inj.mp h)
  have nc_11 : ¬ p0.toInt = 296 := fun h => c_11 (Int32.toInt_inj.mp h)
  refine lv_tableD (tgt := 207) hx hb d_Md_known_1 (by rcases (show (p0.toInt < 256 ∨ 296 < p0.toInt) ∨ (p0.toInt = 258 ∨ p0.toInt = 260 ∨ p0.toInt = 261 ∨ p0.toInt = 263 ∨ p0.toInt = 264 ∨ p0.toInt = 265 ∨ p0.toInt = 267 ∨ p0.toInt = 268 ∨ p0.toInt = 269 ∨ p0.toInt = 270 ∨ p0.toInt = 271 ∨ p0.toInt = 272 ∨ p0.toInt = 274 ∨ p0.toInt = 275 ∨ p0.toInt = 276 ∨ p0.toInt = 277 ∨ p0.toInt = 280 ∨ p0.toInt = 281 ∨ p0.toInt = 284 ∨ p0.toInt = 285 ∨ p0.toInt = 286 ∨ p0.toInt = 287 ∨ p0.toInt = 288 ∨ p0.toInt = 289 ∨ p0.toInt = 290 ∨ p0.toInt = 291 ∨ p0.toInt = 292 ∨ p0.toInt = 293 ∨ p0.toInt = 294 ∨ p0.toInt = 295) by omega) with h | h; exact h.elim Or.inl (fun h => Or.inr (Or.inl h)); exact Or.inr (Or.inr (by rcases h with h | h | h | h | h | h | h | h | h | h | h | h | h | h | h | h | h | h | h | h | h | h | h | h | h | h | h | h | h | h <;> rw [h] <;> rfl))) (by decide) ?_
  refine lv_iconst (v := (-1)) hx hb d_Md_known_207 (by decide) ?_
  have ef : M_Md_known p0 = (-1) := by unfold M_Md_known; (try dsimp only); rw [if_neg c_1]; rw [if_neg c_2]; rw [if_neg c_3]; rw [if_neg c_4]; rw [if_neg c_5]; rw [if_neg c_6]; rw [if_neg c_7]; rw [if_neg c_8]; rw [if_neg c_9]; rw [if_neg c_10]; rw [if_neg c_11]
  exact ct_piret hx hb hr rfl hlocks d_Md_known_208 hQ hS (by rw [ef])
set_option maxHeartbeats 4000000 in
set_option maxRecDepth 100000 in
theorem c_Md_wrong {l : Launch} {D : va_G} {cB cI cJ : ClassId} (h0 h1 h2 h3 h4 h5 h6 h7 h8 : Nat) (md : Nat → Int32) (sz : Int32) (fr : Int32) (bf : Nat → Int32) (mp : Nat → Int32) (ml : Nat → Int32) (mn : Nat → Int64) (mf : Nat → Int32) (sp : Nat → Int32) (sl : Nat → Int32) (et : Nat → Int32) (p0 : Int32) (p1 : Int32) (p2 : Int32) (p3 : Int32) : Ct classes BW l D (TY cB cI cJ) y_Md_wrong b_Md_wrong 5 (some .boolean) ({ frames := 0, cells := 0, slots := 0, locals := 0 } : Room) [.ref h0, .int p0, .int p1, .int p2, .int p3] [(h0, .inr (7, [.int (md 0), .ref h1, .int sz, .int (md 1), .int (md 2), .int (md 3), .int (md 4), .int (md 5), .int (md 6), .int (md 7), .int (md 8), .int (md 9), .int (md 10), .int (md 11), .int (md 12), .int fr, .int (md 13), .ref h2, .ref h3, .int (md 14), .int (md 15), .ref h4, .ref h5, .ref h6, .ref h7, .int (md 16), .int (md 17), .int (md 18), .int (md 19), .ref h8])), (h1, .inl (cB, 65536, .inl bf)), (h2, .inl (cI, 512, .inl mp)), (h3, .inl (cI, 512, .inl ml)), (h4, .inl (cJ, 520, .inr (.inl mn))), (h5, .inl (cI, 41, .inl mf)), (h6, .inl (cI, 8192, .inl sp)), (h7, .inl (cI, 8192, .inl sl)), (h8, .inl (cI, 11, .inl et))] (fun u : Int32 × (Nat → Int32) => u = M_Md_wrong md p0 p1 p2 p3 ∧ (u.1 = 0 ∨ u.1 = 1)) (fun u => some (.int u.1)) (fun u => [(h0, .inr (7, [.int (u.2 0), .ref h1, .int sz, .int (u.2 1), .int (u.2 2), .int (u.2 3), .int (u.2 4), .int (u.2 5), .int (u.2 6), .int (u.2 7), .int (u.2 8), .int (u.2 9), .int (u.2 10), .int (u.2 11), .int (u.2 12), .int fr, .int (u.2 13), .ref h2, .ref h3, .int (u.2 14), .int (u.2 15), .ref h4, .ref h5, .ref h6, .ref h7, .int (u.2 16), .int (u.2 17), .int (u.2 18), .int (u.2 19), .ref h8])), (h1, .inl (cB, 65536, .inl bf)), (h2, .inl (cI, 512, .inl mp)), (h3, .inl (cI, 512, .inl ml)), (h4, .inl (cJ, 520, .inr (.inl mn))), (h5, .inl (cI, 41, .inl mf)), (h6, .inl (cI, 8192, .inl sp)), (h7, .inl (cI, 8192, .inl sl)), (h8, .inl (cI, 11, .inl et))]) (0) (0) := by
  refine Ct.intro (by decide +kernel) (Nat.le_of_ble_eq_true rfl) ?_
  intro p e s m below meth c hx hb hr hml hlocks hnm hown hK A hAe hA hS hP hD ls hl Q hQ
  have hown : s.vm.findClass "PictureFileModel" = some m.cls := hown
  have hH : Hold classes BW D (TY cB cI cJ) p s m c b_Md_wrong 5 "PictureFileModel" := ⟨bw_ok, hx, hb, hml, hown, hK⟩
  have hw : ∀ {w : Cond}, w ∈ BW → w.before ([.ref h0, .int p0, .int p1, .int p2, .int p3] : List Value).toArray s = true := fun h => Wd.at bw_ok hK.2 h
  have hl : lv_has ls 5 [(0, .ref h0), (1, .int p0), (2, .int p1), (3, .int p2), (4, .int p3)] := hl
  refine lv_aload_n hx hb d_Md_wrong_0 rfl (lv_at hl 0 rfl) ?_
  refine lv_iload_n hx hb d_Md_wrong_1 rfl (lv_at hl 1 rfl) ?_
  refine va_put (D := D) (ci := 7) (v := .int p0) (ty := .int) (C := R_Md) (T := F_Md) (N := 30) hx hb (kl_Md hK.2) (fun _ h => h) t_Md t_Md_ok n_Md hown hK.1 hP hD hS 0 rfl rfl 25 (by decide) (hw kw_367) (fun _ h9 => h9) rfl (t_Md_ok 25 (by decide)) rfl rfl (Nat.le_of_ble_eq_true rfl) d_Md_wrong_2 (fun H locs hP hD hS => ?_)
  have hP : va_P D classes [(h0, .inr (7, [.int (md 0), .ref h1, .int sz, .int (md 1), .int (md 2), .int (md 3), .int (md 4), .int (md 5), .int (md 6), .int (md 7), .int (md 8), .int (md 9), .int (md 10), .int (md 11), .int (md 12), .int fr, .int (md 13), .ref h2, .ref h3, .int (md 14), .int (md 15), .ref h4, .ref h5, .ref h6, .ref h7, .int p0, .int (md 17), .int (md 18), .int (md 19), .ref h8])), (h1, .inl (cB, 65536, .inl bf)), (h2, .inl (cI, 512, .inl mp)), (h3, .inl (cI, 512, .inl ml)), (h4, .inl (cJ, 520, .inr (.inl mn))), (h5, .inl (cI, 41, .inl mf)), (h6, .inl (cI, 8192, .inl sp)), (h7, .inl (cI, 8192, .inl sl)), (h8, .inl (cI, 11, .inl et))] H := hP
  have hD : va_D A [(h0, .inr (7, [.int (md 0), .ref h1, .int sz, .int (md 1), .int (md 2), .int (md 3), .int (md 4), .int (md 5), .int (md 6), .int (md 7), .int (md 8), .int (md 9), .int (md 10), .int (md 11), .int (md 12), .int fr, .int (md 13), .ref h2, .ref h3, .int (md 14), .int (md 15), .ref h4, .ref h5, .ref h6, .ref h7, .int p0, .int (md 17), .int (md 18), .int (md 19), .ref h8])), (h1, .inl (cB, 65536, .inl bf)), (h2, .inl (cI, 512, .inl mp)), (h3, .inl (cI, 512, .inl ml)), (h4, .inl (cJ, 520, .inr (.inl mn))), (h5, .inl (cI, 41, .inl mf)), (h6, .inl (cI, 8192, .inl sp)), (h7, .inl (cI, 8192, .inl sl)), (h8, .inl (cI, 11, .inl et))] := hD
  refine lv_aload_n hx hb d_Md_wrong_5 rfl (lv_at hl 0 rfl) ?_
  refine lv_iload_n hx hb d_Md_wrong_6 rfl (lv_at hl 2 rfl) ?_
  refine va_put (D := D) (ci := 7) (v := .int p1) (ty := .int) (C := R_Md) (T := F_Md) (N := 30) hx hb (kl_Md hK.2) (fun _ h => h) t_Md t_Md_ok n_Md hown hK.1 hP hD hS 0 rfl rfl 26 (by decide) (hw kw_368) (fun _ h9 => h9) rfl (t_Md_ok 26 (by decide)) rfl rfl (Nat.le_of_ble_eq_true rfl) d_Md_wrong_7 (fun H locs hP hD hS => ?_)
  have hP : va_P D classes [(h0, .inr (7, [.int (md 0), .ref h1, .int sz, .int (md 1), .int (md 2), .int (md 3), .int (md 4), .int (md 5), .int (md 6), .int (md 7), .int (md 8), .int (md 9), .int (md 10), .int (md 11), .int (md 12), .int fr, .int (md 13), .ref h2, .ref h3, .int (md 14), .int (md 15), .ref h4, .ref h5, .ref h6, .ref h7, .int p0, .int p1, .int (md 18), .int (md 19), .ref h8])), (h1, .inl (cB, 65536, .inl bf)), (h2, .inl (cI, 512, .inl mp)), (h3, .inl (cI, 512, .inl ml)), (h4, .inl (cJ, 520, .inr (.inl mn))), (h5, .inl (cI, 41, .inl mf)), (h6, .inl (cI, 8192, .inl sp)), (h7, .inl (cI, 8192, .inl sl)), (h8, .inl (cI, 11, .inl et))] H := hP
  have hD : va_D A [(h0, .inr (7, [.int (md 0), .ref h1, .int sz, .int (md 1), .int (md 2), .int (md 3), .int (md 4), .int (md 5), .int (md 6), .int (md 7), .int (md 8), .int (md 9), .int (md 10), .int (md 11), .int (md 12), .int fr, .int (md 13), .ref h2, .ref h3, .int (md 14), .int (md 15), .ref h4, .ref h5, .ref h6, .ref h7, .int p0, .int p1, .int (md 18), .int (md 19), .ref h8])), (h1, .inl (cB, 65536, .inl bf)), (h2, .inl (cI, 512, .inl mp)), (h3, .inl (cI, 512, .inl ml)), (h4, .inl (cJ, 520, .inr (.inl mn))), (h5, .inl (cI, 41, .inl mf)), (h6, .inl (cI, 8192, .inl sp)), (h7, .inl (cI, 8192, .inl sl)), (h8, .inl (cI, 11, .inl et))] := hD
  refine lv_aload_n hx hb d_Md_wrong_10 rfl (lv_at hl 0 rfl) ?_
  refine lv_iload_n hx hb d_Md_wrong_11 rfl (lv_at hl 3 rfl) ?_
  refine va_put (D := D) (ci := 7) (v := .int p2) (ty := .int) (C := R_Md) (T := F_Md) (N := 30) hx hb (kl_Md hK.2) (fun _ h => h) t_Md t_Md_ok n_Md hown hK.1 hP hD hS 0 rfl rfl 27 (by decide) (hw kw_369) (fun _ h9 => h9) rfl (t_Md_ok 27 (by decide)) rfl rfl (Nat.le_of_ble_eq_true rfl) d_Md_wrong_12 (fun H locs hP hD hS => ?_)
  have hP : va_P D classes [(h0, .inr (7, [.int (md 0), .ref h1, .int sz, .int (md 1), .int (md 2), .int (md 3), .int (md 4), .int (md 5), .int (md 6), .int (md 7), .int (md 8), .int (md 9), .int (md 10), .int (md 11), .int (md 12), .int fr, .int (md 13), .ref h2, .ref h3, .int (md 14), .int (md 15), .ref h4, .ref h5, .ref h6, .ref h7, .int p0, .int p1, .int p2, .int (md 19), .ref h8])), (h1, .inl (cB, 65536, .inl bf)), (h2, .inl (cI, 512, .inl mp)), (h3, .inl (cI, 512, .inl ml)), (h4, .inl (cJ, 520, .inr (.inl mn))), (h5, .inl (cI, 41, .inl mf)), (h6, .inl (cI, 8192, .inl sp)), (h7, .inl (cI, 8192, .inl sl)), (h8, .inl (cI, 11, .inl et))] H := hP
  have hD : va_D A [(h0, .inr (7, [.int (md 0), .ref h1, .int sz, .int (md 1), .int (md 2), .int (md 3), .int (md 4), .int (md 5), .int (md 6), .int (md 7), .int (md 8), .int (md 9), .int (md 10), .int (md 11), .int (md 12), .int fr, .int (md 13), .ref h2, .ref h3, .int (md 14), .int (md 15), .ref h4, .ref h5, .ref h6, .ref h7, .int p0, .int p1, .int p2, .int (md 19), .ref h8])), (h1, .inl (cB, 65536, .inl bf)), (h2, .inl (cI, 512, .inl mp)), (h3, .inl (cI, 512, .inl ml)), (h4, .inl (cJ, 520, .inr (.inl mn))), (h5, .inl (cI, 41, .inl mf)), (h6, .inl (cI, 8192, .inl sp)), (h7, .inl (cI, 8192, .inl sl)), (h8, .inl (cI, 11, .inl et))] := hD
  refine lv_aload_n hx hb d_Md_wrong_15 rfl (lv_at hl 0 rfl) ?_
  refine lv_iload hx hb d_Md_wrong_16 (lv_at hl 4 rfl) ?_
  refine va_put (D := D) (ci := 7) (v := .int p3) (ty := .int) (C := R_Md) (T := F_Md) (N := 30) hx hb (kl_Md hK.2) (fun _ h => h) t_Md t_Md_ok n_Md hown hK.1 hP hD hS 0 rfl rfl 28 (by decide) (hw kw_370) (fun _ h9 => h9) rfl (t_Md_ok 28 (by decide)) rfl rfl (Nat.le_of_ble_eq_true rfl) d_Md_wrong_18 (fun H locs hP hD hS => ?_)
  have hP : va_P D classes [(h0, .inr (7, [.int (md 0), .ref h1, .int sz, .int (md 1), .int (md 2), .int (md 3), .int (md 4), .int (md 5), .int (md 6), .int (md 7), .int (md 8), .int (md 9), .int (md 10), .int (md 11), .int (md 12), .int fr, .int (md 13), .ref h2, .ref h3, .int (md 14), .int (md 15), .ref h4, .ref h5, .ref h6, .ref h7, .int p0, .int p1, .int p2, .int p3, .ref h8])), (h1, .inl (cB, 65536, .inl bf)), (h2, .inl (cI, 512, .inl mp)), (h3, .inl (cI, 512, .inl ml)), (h4, .inl (cJ, 520, .inr (.inl mn))), (h5, .inl (cI, 41, .inl mf)), (h6, .inl (cI, 8192, .inl sp)), (h7, .inl (cI, 8192, .inl sl)), (h8, .inl (cI, 11, .inl et))] H := hP
  have hD : va_D A [(h0, .inr (7, [.int (md 0), .ref h1, .int sz, .int (md 1), .int (md 2), .int (md 3), .int (md 4), .int (md 5), .int (md 6), .int (md 7), .int (md 8), .int (md 9), .int (md 10), .int (md 11), .int (md 12), .int fr, .int (md 13), .ref h2, .ref h3, .int (md 14), .int (md 15), .ref h4, .ref h5, .ref h6, .ref h7, .int p0, .int p1, .int p2, .int p3, .ref h8])), (h1, .inl (cB, 65536, .inl bf)), (h2, .inl (cI, 512, .inl mp)), (h3, .inl (cI, 512, .inl ml)), (h4, .inl (cJ, 520, .inr (.inl mn))), (h5, .inl (cI, 41, .inl mf)), (h6, .inl (cI, 8192, .inl sp)), (h7, .inl (cI, 8192, .inl sl)), (h8, .inl (cI, 11, .inl et))] := hD
  refine lv_iconst (v := 0) hx hb d_Md_wrong_21 (by decide) ?_
  have ef : M_Md_wrong md p0 p1 p2 p3 = (0, (upd (upd (upd (upd md 16 p0) 17 p1) 18 p2) 19 p3)) := by rfl
  exact ct_iret hx hb hr (rfl) hlocks d_Md_wrong_22 ⟨Nat.zero_le _, Nat.zero_le _⟩ hQ hAe hS (0, (upd (upd (upd (upd md 16 p0) 17 p1) 18 p2) 19 p3)) rfl ⟨ef.symm, (Or.inl rfl)⟩ (hP.sub [0, 1, 2, 3, 4, 5, 6, 7, 8] rfl) (hD.sub [0, 1, 2, 3, 4, 5, 6, 7, 8] rfl rfl)
set_option maxHeartbeats 4000000 in
set_option maxRecDepth 100000 in
theorem c_Md_sizeOf {l : Launch} {D : va_G} {cB cI cJ : ClassId} (p0 : Int32) : CtP classes BW l D (TY cB cI cJ) y_Md_sizeOf b_Md_sizeOf 1 (some .int) ({ frames := 0, cells := 0, slots := 0, locals := 0 } : Room) [.int p0] [] (some (.int (M_Md_sizeOf p0))) := by
  refine CtP.intro (by decide +kernel) (Nat.le_of_ble_eq_true rfl) ?_
  intro p e s m below meth c hx hb hr hml hlocks hnm hown hK hS hP hD ls hl Q hQ
  have hown : s.vm.findClass "PictureFileModel" = some m.cls := hown
  have hH : Hold classes BW D (TY cB cI cJ) p s m c b_Md_sizeOf 1 "PictureFileModel" := ⟨bw_ok, hx, hb, hml, hown, hK⟩
  have hw : ∀ {w : Cond}, w ∈ BW → w.before ([.int p0] : List Value).toArray s = true := fun h => Wd.at bw_ok hK.2 h
  have hl : lv_has ls 1 [(0, .int p0)] := hl
  refine lv_iload_n hx hb d_Md_sizeOf_0 rfl (lv_at hl 0 rfl) ?_
  refine lv_iconst (v := 3) hx hb d_Md_sizeOf_1 (by decide) ?_
  refine lv_icmp_ne (tgt := 9) hx hb d_Md_sizeOf_2 (by decide) (fun c_1 => ?_) (fun c_1 => ?_)
  · skip
    refine lv_iload_n hx hb d_Md_sizeOf_9 rfl (lv_at hl 0 rfl) ?_
    refine lv_iconst (v := 4) hx hb d_Md_sizeOf_10 (by decide) ?_
    refine lv_icmp_ne (tgt := 18) hx hb d_Md_sizeOf_11 (by decide) (fun c_2 => ?_) (fun c_2 => ?_)
    · skip
      refine lv_bipush (v := 8) hx hb d_Md_sizeOf_18 (by decide) ?_
      have ef : M_Md_sizeOf p0 = 8 := by unfold M_Md_sizeOf; (try dsimp only); rw [if_neg c_1]; rw [if_neg c_2]
      exact ct_piret hx hb hr rfl hlocks d_Md_sizeOf_20 hQ hS (by rw [ef])
    · skip
      refine lv_iconst (v := 4) hx hb d_Md_sizeOf_14 (by decide) ?_
      refine lv_goto (tgt := 20) hx hb d_Md_sizeOf_15 (by decide) ?_
      have ef : M_Md_sizeOf p0 = 4 := by unfold M_Md_sizeOf; (try dsimp only); rw [if_neg c_1]; rw [if_pos c_2]
      exact ct_piret hx hb hr rfl hlocks d_Md_sizeOf_20 hQ hS (by rw [ef])
  · skip
    refine lv_iconst (v := 2) hx hb d_Md_sizeOf_5 (by decide) ?_
    refine lv_goto (tgt := 20) hx hb d_Md_sizeOf_6 (by decide) ?_
    have ef : M_Md_sizeOf p0 = 2 := by unfold M_Md_sizeOf; (try dsimp only); rw [if_pos c_1]
    exact ct_piret hx hb hr rfl hlocks d_Md_sizeOf_20 hQ hS (by rw [ef])
