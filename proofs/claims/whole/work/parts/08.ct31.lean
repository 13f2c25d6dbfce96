set_option maxHeartbeats 4000000 in
set_option maxRecDepth 100000 in
theorem c_Md_of {l : Launch} {D : va_G} {cB cI cJ : ClassId} (h0 h1 h2 h3 h4 h5 h6 h7 h8 : Nat) (md : Nat → Int32) (sz : Int32) (fr : Int32) (bf : Nat → Int32) (mp : Nat → Int32) (ml : Nat → Int32) (mn : Nat → Int64) (mf : Nat → Int32) (sp : Nat → Int32) (sl : Nat → Int32) (et : Nat → Int32) (p0 : Int32) (p1 : Int32) (hG : G_Md_of md p0 p1) : Ct classes BW l D (TY cB cI cJ) y_Md_of b_Md_of 3 (some .long) ({ frames := 0, cells := 0, slots := 0, locals := 0 } : Room) [.ref h0, .int p0, .int p1] [(h0, .inr (7, [.int (md 0), .ref h1, .int sz, .int (md 1), .int (md 2), .int (md 3), .int (md 4), .int (md 5), .int (md 6), .int (md 7), .int (md 8), .int (md 9), .int (md 10), .int (md 11), .int (md 12), .int fr, .int (md 13), .ref h2, .ref h3, .int (md 14), .int (md 15), .ref h4, .ref h5, .ref h6, .ref h7, .int (md 16), .int (md 17), .int (md 18), .int (md 19), .ref h8])), (h1, .inl (cB, 65536, .inl bf)), (h2, .inl (cI, 512, .inl mp)), (h3, .inl (cI, 512, .inl ml)), (h4, .inl (cJ, 520, .inr (.inl mn))), (h5, .inl (cI, 41, .inl mf)), (h6, .inl (cI, 8192, .inl sp)), (h7, .inl (cI, 8192, .inl sl)), (h8, .inl (cI, 11, .inl et))] (fun u : Int64 × (Nat → Int32) => u = M_Md_of md mn p0 p1) (fun u => some (.long u.1)) (fun u => [(h0, .inr (7, [.int (u.2 0), .ref h1, .int sz, .int (u.2 1), .int (u.2 2), .int (u.2 3), .int (u.2 4), .int (u.2 5), .int (u.2 6), .int (u.2 7), .int (u.2 8), .int (u.2 9), .int (u.2 10), .int (u.2 11), .int (u.2 12), .int fr, .int (u.2 13), .ref h2, .ref h3, .int (u.2 14), .int (u.2 15), .ref h4, .ref h5, .ref h6, .ref h7, .int (u.2 16), .int (u.2 17), .int (u.2 18), .int (u.2 19), .ref h8])), (h1, .inl (cB, 65536, .inl bf)), (h2, .inl (cI, 512, .inl mp)), (h3, .inl (cI, 512, .inl ml)), (h4, .inl (cJ, 520, .inr (.inl mn))), (h5, .inl (cI, 41, .inl mf)), (h6, .inl (cI, 8192, .inl sp)), (h7, .inl (cI, 8192, .inl sl)), (h8, .inl (cI, 11, .inl et))]) (0) (0) := by
  refine Ct.intro (by decide +kernel) (Nat.le_of_ble_eq_true rfl) ?_
  intro p e s m below meth c hx hb hr hml hlocks hnm hown hK A hAe hA hS hP hD ls hl Q hQ
  have hown : s.vm.findClass "PictureFileModel" = some m.cls := hown
  have hH : Hold classes BW D (TY cB cI cJ) p s m c b_Md_of 3 "PictureFileModel" := ⟨bw_ok, hx, hb, hml, hown, hK⟩
  have hw : ∀ {w : Cond}, w ∈ BW → w.before ([.ref h0, .int p0, .int p1] : List Value).toArray s = true := fun h => Wd.at bw_ok hK.2 h
  have hl : lv_has ls 3 [(0, .ref h0), (1, .int p0), (2, .int p1)] := hl
  unfold G_Md_of at hG
  refine lv_aload_n hx hb d_Md_of_0 rfl (lv_at hl 0 rfl) ?_
  refine lv_iload_n hx hb d_Md_of_1 rfl (lv_at hl 1 rfl) ?_
  refine lv_if_lt (tgt := 27) hx hb d_Md_of_2 (by decide) (fun c_1 => ?_) (fun c_1 => ?_)
  · replace hG := gp_pos c_1 hG
    refine lv_iconst (v := 1) hx hb d_Md_of_27 (by decide) ?_
    refine va_put (D := D) (ci := 7) (v := .int 1) (ty := .int) (C := R_Md) (T := F_Md) (N := 30) hx hb (kl_Md hK.2) (fun _ h => h) t_Md t_Md_ok n_Md hown hK.1 hP hD hS 0 rfl rfl 0 (by decide) (hw kw_310) (fun _ h9 => h9) rfl (t_Md_ok 0 (by decide)) rfl rfl (Nat.le_of_ble_eq_true rfl) d_Md_of_28 (fun H locs hP hD hS => ?_)
    have hP : va_P D classes [(h0, .inr (7, [.int 1, .ref h1, .int sz, .int (md 1), .int (md 2), .int (md 3), .int (md 4), .int (md 5), .int (md 6), .int (md 7), .int (md 8), .int (md 9), .int (md 10), .int (md 11), .int (md 12), .int fr, .int (md 13), .ref h2, .ref h3, .int (md 14), .int (md 15), .ref h4, .ref h5, .ref h6, .ref h7, .int (md 16), .int (md 17), .int (md 18), .int (md 19), .ref h8])), (h1, .inl (cB, 65536, .inl bf)), (h2, .inl (cI, 512, .inl mp)), (h3, .inl (cI, 512, .inl ml)), (h4, .inl (cJ, 520, .inr (.inl mn))), (h5, .inl (cI, 41, .inl mf)), (h6, .inl (cI, 8192, .inl sp)), (h7, .inl (cI, 8192, .inl sl)), (h8, .inl (cI, 11, .inl et))] H := hP
    have hD : va_D A [(h0, .inr (7, [.int 1, .ref h1, .int sz, .int (md 1), .int (md 2), .int (md 3), .int (md 4), .int (md 5), .int (md 6), .int (md 7), .int (md 8), .int (md 9), .int (md 10), .int (md 11), .int (md 12), .int fr, .int (md 13), .ref h2, .ref h3, .int (md 14), .int (md 15), .ref h4, .ref h5, .ref h6, .ref h7, .int (md 16), .int (md 17), .int (md 18), .int (md 19), .ref h8])), (h1, .inl (cB, 65536, .inl bf)), (h2, .inl (cI, 512, .inl mp)), (h3, .inl (cI, 512, .inl ml)), (h4, .inl (cJ, 520, .inr (.inl mn))), (h5, .inl (cI, 41, .inl mf)), (h6, .inl (cI, 8192, .inl sp)), (h7, .inl (cI, 8192, .inl sl)), (h8, .inl (cI, 11, .inl et))] := hD
    refine lv_aload_n hx hb d_Md_of_31 rfl (lv_at hl 0 rfl) ?_
    refine va_get (D := D) (ci := 7) (C := R_Md) (T := F_Md) (N := 30) hx hb (kl_Md hK.2) (fun _ h => h) hown hK.1 hP 0 rfl rfl 0 (by decide) (hw kw_310) (fun _ h9 => h9) rfl d_Md_of_32 ?_
    refine lv_if_le (tgt := 42) hx hb d_Md_of_35 (by decide) (fun c => absurd c (by decide)) (fun _ => ?_)
    refine lv_lconst (v := 0) hx hb d_Md_of_38 (by decide) ?_
    refine lv_goto (tgt := 53) hx hb d_Md_of_39 (by decide) ?_
    have ef : M_Md_of md mn p0 p1 = (0, (upd md 0 1)) := by unfold M_Md_of; (try dsimp only); rw [if_pos c_1]
    exact ct_lret hx hb hr hlocks d_Md_of_53 ⟨Nat.zero_le _, Nat.zero_le _⟩ hQ hAe hS (0, (upd md 0 1)) rfl ef.symm (hP.sub [0, 1, 2, 3, 4, 5, 6, 7, 8] rfl) (hD.sub [0, 1, 2, 3, 4, 5, 6, 7, 8] rfl rfl)
  · replace hG := gp_neg c_1 hG
    refine lv_iload_n hx hb d_Md_of_5 rfl (lv_at hl 1 rfl) ?_
    refine lv_aload_n hx hb d_Md_of_6 rfl (lv_at hl 0 rfl) ?_
    refine va_get (D := D) (ci := 7) (C := R_Md) (T := F_Md) (N := 30) hx hb (kl_Md hK.2) (fun _ h => h) hown hK.1 hP 0 rfl rfl 20 (by decide) (hw kw_415) (fun _ h9 => h9) rfl d_Md_of_7 ?_
    refine lv_icmp_ge (tgt := 27) hx hb d_Md_of_10 (by decide) (fun c_2 => ?_) (fun c_2 => ?_)
    · replace hG := gp_pos c_2 hG
      refine lv_iconst (v := 1) hx hb d_Md_of_27 (by decide) ?_
      refine va_put (D := D) (ci := 7) (v := .int 1) (ty := .int) (C := R_Md) (T := F_Md) (N := 30) hx hb (kl_Md hK.2) (fun _ h => h) t_Md t_Md_ok n_Md hown hK.1 hP hD hS 0 rfl rfl 0 (by decide) (hw kw_310) (fun _ h9 => h9) rfl (t_Md_ok 0 (by decide)) rfl rfl (Nat.le_of_ble_eq_true rfl) d_Md_of_28 (fun H locs hP hD hS => ?_)
      have hP : va_P D classes [(h0, .inr (7, [.int 1, .ref h1, .int sz, .int (md 1), .int (md 2), .int (md 3), .int (md 4), .int (md 5), .int (md 6), .int (md 7), .int (md 8), .int (md 9), .int (md 10), .int (md 11), .int (md 12), .int fr, .int (md 13), .ref h2, .ref h3, .int (md 14), .int (md 15), .ref h4, .ref h5, .ref h6, .ref h7, .int (md 16), .int (md 17), .int (md 18), .int (md 19), .ref h8])), (h1, .inl (cB, 65536, .inl bf)), (h2, .inl (cI, 512, .inl mp)), (h3, .inl (cI, 512, .inl ml)), (h4, .inl (cJ, 520, .inr (.inl mn))), (h5, .inl (cI, 41, .inl mf)), (h6, .inl (cI, 8192, .inl sp)), (h7, .inl (cI, 8192, .inl sl)), (h8, .inl (cI, 11, .inl et))] H := hP
      have hD : va_D A [(h0, .inr (7, [.int 1, .ref h1, .int sz, .int (md 1), .int (md 2), .int (md 3), .int (md 4), .int (md 5), .int (md 6), .int (md 7), .int (md 8), .int (md 9), .int (md 10), .int (md 11), .int (md 12), .int fr, .int (md 13), .ref h2, .ref h3, .int (md 14), .int (md 15), .ref h4, .ref h5, .ref h6, .ref h7, .int (md 16), .int (md 17), .int (md 18), .int (md 19), .ref h8])), (h1, .inl (cB, 65536, .inl bf)), (h2, .inl (cI, 512, .inl mp)), (h3, .inl (cI, 512, .inl ml)), (h4, .inl (cJ, 520, .inr (.inl mn))), (h5, .inl (cI, 41, .inl mf)), (h6, .inl (cI, 8192, .inl sp)), (h7, .inl (cI, 8192, .inl sl)), (h8, .inl (cI, 11, .inl et))] := hD
      refine lv_aload_n hx hb d_Md_of_31 rfl (lv_at hl 0 rfl) ?_
      refine va_get (D := D) (ci := 7) (C := R_Md) (T := F_Md) (N := 30) hx hb (kl_Md hK.2) (fun _ h => h) hown hK.1 hP 0 rfl rfl 0 (by decide) (hw kw_310) (fun _ h9 => h9) rfl d_Md_of_32 ?_
      refine lv_if_le (tgt := 42) hx hb d_Md_of_35 (by decide) (fun c => absurd c (by decide)) (fun _ => ?_)
      refine lv_lconst (v := 0) hx hb d_Md_of_38 (by decide) ?_
      refine lv_goto (tgt := 53) hx hb d_Md_of_39 (by decide) ?_
      have ef : M_Md_of md mn p0 p1 = (0, (upd md 0 1)) := by unfold M_Md_of; (try dsimp only); rw [if_neg c_1]; rw [if_pos c_2]
      exact ct_lret hx hb hr hlocks d_Md_of_53 ⟨Nat.zero_le _, Nat.zero_le _⟩ hQ hAe hS (0, (upd md 0 1)) rfl ef.symm (hP.sub [0, 1, 2, 3, 4, 5, 6, 7, 8] rfl) (hD.sub [0, 1, 2, 3, 4, 5, 6, 7, 8] rfl rfl)
    · replace hG := gp_neg c_2 hG
      refine lv_iload_n hx hb d_Md_of_13 rfl (lv_at hl 2 rfl) ?_
      refine lv_if_lt (tgt := 27) hx hb d_Md_of_14 (by decide) (fun c_3 => ?_) (fun c_3 => ?_)
      · replace hG := gp_pos c_3 hG
        refine lv_iconst (v := 1) hx hb d_Md_of_27 (by decide) ?_
        refine va_put (D := D) (ci := 7) (v := .int 1) (ty := .int) (C := R_Md) (T := F_Md) (N := 30) hx hb (kl_Md hK.2) (fun _ h => h) t_Md t_Md_ok n_Md hown hK.1 hP hD hS 0 rfl rfl 0 (by decide) (hw kw_310) (fun _ h9 => h9) rfl (t_Md_ok 0 (by decide)) rfl rfl (Nat.le_of_ble_eq_true rfl) d_Md_of_28 (fun H locs hP hD hS => ?_)
        have hP : va_P D classes [(h0, .inr (7, [.int 1, .ref h1, .int sz, .int (md 1), .int (md 2), .int (md 3), .int (md 4), .int (md 5), .int (md 6), .int (md 7), .int (md 8), .int (md 9), .int (md 10), .int (md 11), .int (md 12), .int fr, .int (md 13), .ref h2, .ref h3, .int (md 14), .int (md 15), .ref h4, .ref h5, .ref h6, .ref h7, .int (md 16), .int (md 17), .int (md 18), .int (md 19), .ref h8])), (h1, .inl (cB, 65536, .inl bf)), (h2, .inl (cI, 512, .inl mp)), (h3, .inl (cI, 512, .inl ml)), (h4, .inl (cJ, 520, .inr (.inl mn))), (h5, .inl (cI, 41, .inl mf)), (h6, .inl (cI, 8192, .inl sp)), (h7, .inl (cI, 8192, .inl sl)), (h8, .inl (cI, 11, .inl et))] H := hP
        have hD : va_D A [(h0, .inr (7, [.int 1, .ref h1, .int sz, .int (md 1), .int (md 2), .int (md 3), .int (md 4), .int (md 5), .int (md 6), .int (md 7), .int (md 8), .int (md 9), .int (md 10), .int (md 11), .int (md 12), .int fr, .int (md 13), .ref h2, .ref h3, .int (md 14), .int (md 15), .ref h4, .ref h5, .ref h6, .ref h7, .int (md 16), .int (md 17), .int (md 18), .int (md 19), .ref h8])), (h1, .inl (cB, 65536, .inl bf)), (h2, .inl (cI, 512, .inl mp)), (h3, .inl (cI, 512, .inl ml)), (h4, .inl (cJ, 520, .inr (.inl mn))), (h5, .inl (cI, 41, .inl mf)), (h6, .inl (cI, 8192, .inl sp)), (h7, .inl (cI, 8192, .inl sl)), (h8, .inl (cI, 11, .inl et))] := hD
        refine lv_aload_n hx hb d_Md_of_31 rfl (lv_at hl 0 rfl) ?_
        refine va_get (D := D) (ci := 7) (C := R_Md) (T := F_Md) (N := 30) hx hb (kl_Md hK.2) (fun _ h => h) hown hK.1 hP 0 rfl rfl 0 (by decide) (hw kw_310) (fun _ h9 => h9) rfl d_Md_of_32 ?_
        refine lv_if_le (tgt := 42) hx hb d_Md_of_35 (by decide) (fun c => absurd c (by decide)) (fun _ => ?_)
        refine lv_lconst (v := 0) hx hb d_Md_of_38 (by decide) ?_
        refine lv_goto (tgt := 53) hx hb d_Md_of_39 (by decide) ?_
        have ef : M_Md_of md mn p0 p1 = (0, (upd md 0 1)) := by unfold M_Md_of; (try dsimp only); rw [if_neg c_1]; rw [if_neg c_2]; rw [if_pos c_3]
        exact ct_lret hx hb hr hlocks d_Md_of_53 ⟨Nat.zero_le _, Nat.zero_le _⟩ hQ hAe hS (0, (upd md 0 1)) rfl ef.symm (hP.sub [0, 1, 2, 3, 4, 5, 6, 7, 8] rfl) (hD.sub [0, 1, 2, 3, 4, 5, 6, 7, 8] rfl rfl)
      · replace hG := gp_neg c_3 hG
        refine lv_iload_n hx hb d_Md_of_17 rfl (lv_at hl 2 rfl) ?_
        refine lv_bipush (v := 13) hx hb d_Md_of_18 (by decide) ?_
        refine lv_icmp_ge (tgt := 27) hx hb d_Md_of_20 (by decide) (fun c_4 => ?_) (fun c_4 => ?_)
        · replace hG := gp_pos c_4 hG
          refine lv_iconst (v := 1) hx hb d_Md_of_27 (by decide) ?_
          refine va_put (D := D) (ci := 7) (v := .int 1) (ty := .int) (C := R_Md) (T := F_Md) (N := 30) hx hb (kl_Md hK.2) (fun _ h => h) t_Md t_Md_ok n_Md hown hK.1 hP hD hS 0 rfl rfl 0 (by decide) (hw kw_310) (fun _ h9 => h9) rfl (t_Md_ok 0 (by decide)) rfl rfl (Nat.le_of_ble_eq_true rfl) d_Md_of_28 (fun H locs hP hD hS => ?_)
          have hP : va_P D classes [(h0, .inr (7, [.int 1, .ref h1, .int sz, .int (md 1), .int (md 2), .int (md 3), .int (md 4), .int (md 5), .int (md 6), .int (md 7), .int (md 8), .int (md 9), .int (md 10), .int (md 11), .int (md 12), .int fr, .int (md 13), .ref h2, .ref h3, .int (md 14), .int (md 15), .ref h4, .ref h5, .ref h6, .ref h7, .int (md 16), .int (md 17), .int (md 18), .int (md 19), .ref h8])), (h1, .inl (cB, 65536, .inl bf)), (h2, .inl (cI, 512, .inl mp)), (h3, .inl (cI, 512, .inl ml)), (h4, .inl (cJ, 520, .inr (.inl mn))), (h5, .inl (cI, 41, .inl mf)), (h6, .inl (cI, 8192, .inl sp)), (h7, .inl (cI, 8192, .inl sl)), (h8, .inl (cI, 11, .inl et))] H := hP
          have hD : va_D A [(h0, .inr (7, [.int 1, .ref h1, .int sz, .int (md 1), .int (md 2), .int (md 3), .int (md 4), .int (md 5), .int (md 6), .int (md 7), .int (md 8), .int (md 9), .int (md 10), .int (md 11), .int (md 12), .int fr, .int (md 13), .ref h2, .ref h3, .int (md 14), .int (md 15), .ref h4, .ref h5, .ref h6, .ref h7, .int (md 16), .int (md 17), .int (md 18), .int (md 19), .ref h8])), (h1, .inl (cB, 65536, .inl bf)), (h2, .inl (cI, 512, .inl mp)), (h3, .inl (cI, 512, .inl ml)), (h4, .inl (cJ, 520, .inr (.inl mn))), (h5, .inl (cI, 41, .inl mf)), (h6, .inl (cI, 8192, .inl sp)), (h7, .inl (cI, 8192, .inl sl)), (h8, .inl (cI, 11, .inl et))] := hD
          refine lv_aload_n hx hb d_Md_of_31 rfl (lv_at hl 0 rfl) ?_
          refine va_get (D := D) (ci := 7) (C := R_Md) (T := F_Md) (N := 30) hx hb (kl_Md hK.2) (fun _ h => h) hown hK.1 hP 0 rfl rfl 0 (by decide) (hw kw_310) (fun _ h9 => h9) rfl d_Md_of_32 ?_
          refine lv_if_le (tgt := 42) hx hb d_Md_of_35 (by decide) (fun c => absurd c (by decide)) (fun _ => ?_)
          refine lv_lconst (v := 0) hx hb d_Md_of_38 (by decide) ?_
          refine lv_goto (tgt := 53) hx hb d_Md_of_39 (by decide) ?_
          have ef : M_Md_of md mn p0 p1 = (0, (upd md 0 1)) := by unfold M_Md_of; (try dsimp only); rw [if_neg c_1]; rw [if_neg c_2]; rw [if_neg c_3]; rw [if_pos c_4]
          exact ct_lret hx hb hr hlocks d_Md_of_53 ⟨Nat.zero_le _, Nat.zero_le _⟩ hQ hAe hS (0, (upd md 0 1)) rfl ef.symm (hP.sub [0, 1, 2, 3, 4, 5, 6, 7, 8] rfl) (hD.sub [0, 1, 2, 3, 4, 5, 6, 7, 8] rfl rfl)
        · replace hG := gp_neg c_4 hG
          refine lv_iconst (v := 0) hx hb d_Md_of_23 (by decide) ?_
          refine lv_goto (tgt := 28) hx hb d_Md_of_24 (by decide) ?_
          refine va_put (D := D) (ci := 7) (v := .int 0) (ty := .int) (C := R_Md) (T := F_Md) (N := 30) hx hb (kl_Md hK.2) (fun _ h => h) t_Md t_Md_ok n_Md hown hK.1 hP hD hS 0 rfl rfl 0 (by decide) (hw kw_310) (fun _ h9 => h9) rfl (t_Md_ok 0 (by decide)) rfl rfl (Nat.le_of_ble_eq_true rfl) d_Md_of_28 (fun H locs hP hD hS => ?_)
          have hP : va_P D classes [(h0, .inr (7, [.int 0, .ref h1, .int sz, .int (md 1), .int (md 2), .int (md 3), .int (md 4), .int (md 5), .int (md 6), .int (md 7), .int (md 8), .int (md 9), .int (md 10), .int (md 11), .int (md 12), .int fr, .int (md 13), .ref h2, .ref h3, .int (md 14), .int (md 15), .ref h4, .ref h5, .ref h6, .ref h7, .int (md 16), .int (md 17), .int (md 18), .int (md 19), .ref h8])), (h1, .inl (cB, 65536, .inl bf)), (h2, .inl (cI, 512, .inl mp)), (h3, .inl (cI, 512, .inl ml)), (h4, .inl (cJ, 520, .inr (.inl mn))), (h5, .inl (cI, 41, .inl mf)), (h6, .inl (cI, 8192, .inl sp)), (h7, .inl (cI, 8192, .inl sl)), (h8, .inl (cI, 11, .inl et))] H := hP
          have hD : va_D A [(h0, .inr (7, [.int 0, .ref h1, .int sz, .int (md 1), .int (md 2), .int (md 3), .int (md 4), .int (md 5), .int (md 6), .int (md 7), .int (md 8), .int (md 9), .int (md 10), .int (md 11), .int (md 12), .int fr, .int (md 13), .ref h2, .ref h3, .int (md 14), .int (md 15), .ref h4, .ref h5, .ref h6, .ref h7, .int (md 16), .int (md 17), .int (md 18), .int (md 19), .ref h8])), (h1, .inl (cB, 65536, .inl bf)), (h2, .inl (cI, 512, .inl mp)), (h3, .inl (cI, 512, .inl ml)), (h4, .inl (cJ, 520, .inr (.inl mn))), (h5, .inl (cI, 41, .inl mf)), (h6, .inl (cI, 8192, .inl sp)), (h7, .inl (cI, 8192, .inl sl)), (h8, .inl (cI, 11, .inl et))] := hD
          refine lv_aload_n hx hb d_Md_of_31 rfl (lv_at hl 0 rfl) ?_
          refine va_get (D := D) (ci := 7) (C := R_Md) (T := F_Md) (N := 30) hx hb (kl_Md hK.2) (fun _ h => h) hown hK.1 hP 0 rfl rfl 0 (by decide) (hw kw_310) (fun _ h9 => h9) rfl d_Md_of_32 ?_
          refine lv_if_le (tgt := 42) hx hb d_Md_of_35 (by decide) (fun _ => ?_) (fun c => absurd (by decide) c)
          refine lv_aload_n hx hb d_Md_of_42 rfl (lv_at hl 0 rfl) ?_
          refine va_get (D := D) (ci := 7) (C := R_Md) (T := F_Md) (N := 30) hx hb (kl_Md hK.2) (fun _ h => h) hown hK.1 hP 0 rfl rfl 21 (by decide) (hw kw_400) (fun _ h9 => h9) rfl d_Md_of_43 ?_
          refine lv_bipush (v := 13) hx hb d_Md_of_46 (by decide) ?_
          refine lv_iload_n hx hb d_Md_of_48 rfl (lv_at hl 1 rfl) ?_
          refine lv_imul hx hb d_Md_of_49 ?_
          refine lv_iload_n hx hb d_Md_of_50 rfl (lv_at hl 2 rfl) ?_
          refine lv_iadd hx hb d_Md_of_51 ?_
          have g_9 := hG
          refine va_lald hx hb hK.1 hP 4 2 rfl rfl (g_9) d_Md_of_52 ?_
          have ef : M_Md_of md mn p0 p1 = ((mn ((13 * p0) + p1).toNatClampNeg), (upd md 0 0)) := by unfold M_Md_of; (try dsimp only); rw [if_neg c_1]; rw [if_neg c_2]; rw [if_neg c_3]; rw [if_neg c_4]
          exact ct_lret hx hb hr hlocks d_Md_of_53 ⟨Nat.zero_le _, Nat.zero_le _⟩ hQ hAe hS ((mn ((13 * p0) + p1).toNatClampNeg), (upd md 0 0)) rfl ef.symm (hP.sub [0, 1, 2, 3, 4, 5, 6, 7, 8] rfl) (hD.sub [0, 1, 2, 3, 4, 5, 6, 7, 8] rfl rfl)
set_option maxHeartbeats 4000000 in
set_option maxRecDepth 100000 in
theorem c_Md_isStrip {l : Launch} {D : va_G} {cB cI cJ : ClassId} (h0 h1 h2 h3 h4 h5 h6 h7 h8 : Nat) (md : Nat → Int32) (sz : Int32) (fr : Int32) (bf : Nat → Int32) (mp : Nat → Int32) (ml : Nat → Int32) (mn : Nat → Int64) (mf : Nat → Int32) (sp : Nat → Int32) (sl : Nat → Int32) (et : Nat → Int32) (p0 : Int32) (p1 : Int32) (hG : G_Md_isStrip md p0 p1) : CtP classes BW l D (TY cB cI cJ) y_Md_isStrip b_Md_isStrip 3 (some .boolean) ({ frames := 0, cells := 0, slots := 0, locals := 0 } : Room) [.ref h0, .int p0, .int p1] [(h0, .inr (7, [.int (md 0), .ref h1, .int sz, .int (md 1), .int (md 2), .int (md 3), .int (md 4), .int (md 5), .int (md 6), .int (md 7), .int (md 8), .int (md 9), .int (md 10), .int (md 11), .int (md 12), .int fr, .int (md 13), .ref h2, .ref h3, .int (md 14), .int (md 15), .ref h4, .ref h5, .ref h6, .ref h7, .int (md 16), .int (md 17), .int (md 18), .int (md 19), .ref h8])), (h1, .inl (cB, 65536, .inl bf)), (h2, .inl (cI, 512, .inl mp)), (h3, .inl (cI, 512, .inl ml)), (h4, .inl (cJ, 520, .inr (.inl mn))), (h5, .inl (cI, 41, .inl mf)), (h6, .inl (cI, 8192, .inl sp)), (h7, .inl (cI, 8192, .inl sl)), (h8, .inl (cI, 11, .inl et))] (some (.int (M_Md_isStrip md mn p0 p1))) := by
  refine CtP.intro (by decide +kernel) (Nat.le_of_ble_eq_true rfl) ?_
  intro p e s m below meth c hx hb hr hml hlocks hnm hown hK hS hP hD ls hl Q hQ
  have hown : s.vm.findClass "PictureFileModel" = some m.cls := hown
  have hH : Hold classes BW D (TY cB cI cJ) p s m c b_Md_isStrip 3 "PictureFileModel" := ⟨bw_ok, hx, hb, hml, hown, hK⟩
  have hw : ∀ {w : Cond}, w ∈ BW → w.before ([.ref h0, .int p0, .int p1] : List Value).toArray s = true := fun h => Wd.at bw_ok hK.2 h
  have hl : lv_has ls 3 [(0, .ref h0), (1, .int p0), (2, .int p1)] := hl
  unfold G_Md_isStrip at hG
  refine lv_iload_n hx hb d_Md_isStrip_0 rfl (lv_at hl 1 rfl) ?_
  refine lv_if_lt (tgt := 54) hx hb d_Md_isStrip_1 (by decide) (fun c_1 => ?_) (fun c_1 => ?_)
  · replace hG := gp_pos c_1 hG
    refine lv_iconst (v := 0) hx hb d_Md_isStrip_54 (by decide) ?_
    have ef : M_Md_isStrip md mn p0 p1 = 0 := by unfold M_Md_isStrip; (try dsimp only); rw [if_pos c_1]
    exact ct_piret hx hb hr (rfl) hlocks d_Md_isStrip_55 hQ hS (by rw [ef])
  · replace hG := gp_neg c_1 hG
    refine lv_iload_n hx hb d_Md_isStrip_4 rfl (lv_at hl 1 rfl) ?_
    refine lv_aload_n hx hb d_Md_isStrip_5 rfl (lv_at hl 0 rfl) ?_
    refine va_get (D := D) (ci := 7) (C := R_Md) (T := F_Md) (N := 30) hx hb (kl_Md hK.2) (fun _ h => h) hown hK.1 hP 0 rfl rfl 20 (by decide) (hw kw_415) (fun _ h9 => h9) rfl d_Md_isStrip_6 ?_
    refine lv_icmp_ge (tgt := 54) hx hb d_Md_isStrip_9 (by decide) (fun c_2 => ?_) (fun c_2 => ?_)
    · replace hG := gp_pos c_2 hG
      refine lv_iconst (v := 0) hx hb d_Md_isStrip_54 (by decide) ?_
      have ef : M_Md_isStrip md mn p0 p1 = 0 := by unfold M_Md_isStrip; (try dsimp only); rw [if_neg c_1]; rw [if_pos c_2]
      exact ct_piret hx hb hr (rfl) hlocks d_Md_isStrip_55 hQ hS (by rw [ef])
    · replace hG := gp_neg c_2 hG
      refine lv_iload_n hx hb d_Md_isStrip_12 rfl (lv_at hl 2 rfl) ?_
      refine lv_if_lt (tgt := 54) hx hb d_Md_isStrip_13 (by decide) (fun c_3 => ?_) (fun c_3 => ?_)
      · replace hG := gp_pos c_3 hG
        refine lv_iconst (v := 0) hx hb d_Md_isStrip_54 (by decide) ?_
        have ef : M_Md_isStrip md mn p0 p1 = 0 := by unfold M_Md_isStrip; (try dsimp only); rw [if_neg c_1]; rw [if_neg c_2]; rw [if_pos c_3]
        exact ct_piret hx hb hr (rfl) hlocks d_Md_isStrip_55 hQ hS (by rw [ef])
      · replace hG := gp_neg c_3 hG
        refine lv_iload_n hx hb d_Md_isStrip_16 rfl (lv_at hl 2 rfl) ?_
        refine lv_i2l hx hb d_Md_isStrip_17 rfl ?_
        refine lv_aload_n hx hb d_Md_isStrip_18 rfl (lv_at hl 0 rfl) ?_
        refine va_get (D := D) (ci := 7) (C := R_Md) (T := F_Md) (N := 30) hx hb (kl_Md hK.2) (fun _ h => h) hown hK.1 hP 0 rfl rfl 21 (by decide) (hw kw_400) (fun _ h9 => h9) rfl d_Md_isStrip_19 ?_
        refine lv_iload_n hx hb d_Md_isStrip_22 rfl (lv_at hl 1 rfl) ?_
        refine lv_if_lt (tgt := 44) hx hb d_Md_isStrip_23 (by decide) (fun c => absurd c c_1) (fun _ => ?_)
        refine lv_iload_n hx hb d_Md_isStrip_26 rfl (lv_at hl 1 rfl) ?_
        refine lv_aload_n hx hb d_Md_isStrip_27 rfl (lv_at hl 0 rfl) ?_
        refine va_get (D := D) (ci := 7) (C := R_Md) (T := F_Md) (N := 30) hx hb (kl_Md hK.2) (fun _ h => h) hown hK.1 hP 0 rfl rfl 20 (by decide) (hw kw_415) (fun _ h9 => h9) rfl d_Md_isStrip_28 ?_
        refine lv_icmp_ge (tgt := 44) hx hb d_Md_isStrip_31 (by decide) (fun c => absurd c c_2) (fun _ => ?_)
        refine lv_bipush (v := 13) hx hb d_Md_isStrip_34 (by decide) ?_
        refine lv_iload_n hx hb d_Md_isStrip_36 rfl (lv_at hl 1 rfl) ?_
        refine lv_imul hx hb d_Md_isStrip_37 ?_
        refine lv_bipush (v := 6) hx hb d_Md_isStrip_38 (by decide) ?_
        refine lv_iadd hx hb d_Md_isStrip_40 ?_
        refine lv_goto (tgt := 45) hx hb d_Md_isStrip_41 (by decide) ?_
        have g_7 := hG
        refine va_lald hx hb hK.1 hP 4 2 rfl rfl (g_7) d_Md_isStrip_45 ?_
        refine W.lcmp hx hb d_Md_isStrip_46 ?_
        refine lv_if_ge (tgt := 54) hx hb d_Md_isStrip_47 (by decide) (fun c_4 => ?_) (fun c_4 => ?_)
        · skip
          refine lv_iconst (v := 0) hx hb d_Md_isStrip_54 (by decide) ?_
          have ef : M_Md_isStrip md mn p0 p1 = 0 := by unfold M_Md_isStrip; (try dsimp only); rw [if_neg c_1]; rw [if_neg c_2]; rw [if_neg c_3]; rw [if_pos c_4]
          exact ct_piret hx hb hr (rfl) hlocks d_Md_isStrip_55 hQ hS (by rw [ef])
        · skip
          refine lv_iconst (v := 1) hx hb d_Md_isStrip_50 (by decide) ?_
          refine lv_goto (tgt := 55) hx hb d_Md_isStrip_51 (by decide) ?_
          have ef : M_Md_isStrip md mn p0 p1 = 1 := by unfold M_Md_isStrip; (try dsimp only); rw [if_neg c_1]; rw [if_neg c_2]; rw [if_neg c_3]; rw [if_neg c_4]
          exact ct_piret hx hb hr (rfl) hlocks d_Md_isStrip_55 hQ hS (by rw [ef])
set_option maxHeartbeats 4000000 in
set_option maxRecDepth 100000 in
theorem c_Md_where {l : Launch} {D : va_G} {cB cI cJ : ClassId} (h0 h1 h2 h3 h4 h5 h6 h7 h8 : Nat) (md : Nat → Int32) (sz : Int32) (fr : Int32) (bf : Nat → Int32) (mp : Nat → Int32) (ml : Nat → Int32) (mn : Nat → Int64) (mf : Nat → Int32) (sp : Nat → Int32) (sl : Nat → Int32) (et : Nat → Int32) (p0 : Int32) (p1 : Int32) (p2 : Int32) (hG : G_Md_where md mn mf p0 p1 p2) : Ct classes BW l D (TY cB cI cJ) y_Md_where b_Md_where 4 (some .int) ({ frames := 1, cells := 0, slots := 0, locals := 22 } : Room) [.ref h0, .int p0, .int p1, .int p2] [(h0, .inr (7, [.int (md 0), .ref h1, .int sz, .int (md 1), .int (md 2), .int (md 3), .int (md 4), .int (md 5), .int (md 6), .int (md 7), .int (md 8), .int (md 9), .int (md 10), .int (md 11), .int (md 12), .int fr, .int (md 13), .ref h2, .ref h3, .int (md 14), .int (md 15), .ref h4, .ref h5, .ref h6, .ref h7, .int (md 16), .int (md 17), .int (md 18), .int (md 19), .ref h8])), (h1, .inl (cB, 65536, .inl bf)), (h2, .inl (cI, 512, .inl mp)), (h3, .inl (cI, 512, .inl ml)), (h4, .inl (cJ, 520, .inr (.inl mn))), (h5, .inl (cI, 41, .inl mf)), (h6, .inl (cI, 8192, .inl sp)), (h7, .inl (cI, 8192, .inl sl)), (h8, .inl (cI, 11, .inl et))] (fun u : Int32 × (Nat → Int32) => u = M_Md_where md mn mf sp sl p0 p1 p2) (fun u => some (.int u.1)) (fun u => [(h0, .inr (7, [.int (u.2 0), .ref h1, .int sz, .int (u.2 1), .int (u.2 2), .int (u.2 3), .int (u.2 4), .int (u.2 5), .int (u.2 6), .int (u.2 7), .int (u.2 8), .int (u.2 9), .int (u.2 10), .int (u.2 11), .int (u.2 12), .int fr, .int (u.2 13), .ref h2, .ref h3, .int (u.2 14), .int (u.2 15), .ref h4, .ref h5, .ref h6, .ref h7, .int (u.2 16), .int (u.2 17), .int (u.2 18), .int (u.2 19), .ref h8])), (h1, .inl (cB, 65536, .inl bf)), (h2, .inl (cI, 512, .inl mp)), (h3, .inl (cI, 512, .inl ml)), (h4, .inl (cJ, 520, .inr (.inl mn))), (h5, .inl (cI, 41, .inl mf)), (h6, .inl (cI, 8192, .inl sp)), (h7, .inl (cI, 8192, .inl sl)), (h8, .inl (cI, 11, .inl et))]) (0) (0) := by
  refine Ct.intro (by decide +kernel) (Nat.le_of_ble_eq_true rfl) ?_
  intro p e s m below meth c hx hb hr hml hlocks hnm hown hK A hAe hA hS hP hD ls hl Q hQ
  have hown : s.vm.findClass "PictureFileModel" = some m.cls := hown
  have hH : Hold classes BW D (TY cB cI cJ) p s m c b_Md_where 4 "PictureFileModel" := ⟨bw_ok, hx, hb, hml, hown, hK⟩
  have hw : ∀ {w : Cond}, w ∈ BW → w.before ([.ref h0, .int p0, .int p1, .int p2] : List Value).toArray s = true := fun h => Wd.at bw_ok hK.2 h
  have hl : lv_has ls 4 [(0, .ref h0), (1, .int p0), (2, .int p1), (3, .int p2)] := hl
  unfold G_Md_where at hG
  refine lv_aload_n hx hb d_Md_where_0 rfl (lv_at hl 0 rfl) ?_
  refine lv_aload_n hx hb d_Md_where_1 rfl (lv_at hl 0 rfl) ?_
  refine lv_iload_n hx hb d_Md_where_2 rfl (lv_at hl 1 rfl) ?_
  refine lv_iload_n hx hb d_Md_where_3 rfl (lv_at hl 2 rfl) ?_
  obtain ⟨g_1, hG⟩ := hG
  refine ct_finP (ct_runV (n := 2) (C := R_Md) (b := h0) (As := [.int p0, .int p1]) (rest := [.ref h0]) hH (c_Md_isStrip h0 h1 h2 h3 h4 h5 h6 h7 h8 md sz fr bf mp ml mn mf sp sl et p0 p1 g_1 _) ⟨cal_Md_isStrip, ⟨Nat.le_of_ble_eq_true rfl, Nat.le_of_ble_eq_true rfl⟩, (Nat.le_of_ble_eq_true rfl), (Nat.le_of_ble_eq_true rfl)⟩ kw_432 kw_433 kw_316 kw_434 kw_435 (va_recv hK.1 hP (ci := 7) (q0 := 0) rfl rfl) (hP.sub (ws' := [(h0, .inr (7, [.int (md 0), .ref h1, .int sz, .int (md 1), .int (md 2), .int (md 3), .int (md 4), .int (md 5), .int (md 6), .int (md 7), .int (md 8), .int (md 9), .int (md 10), .int (md 11), .int (md 12), .int fr, .int (md 13), .ref h2, .ref h3, .int (md 14), .int (md 15), .ref h4, .ref h5, .ref h6, .ref h7, .int (md 16), .int (md 17), .int (md 18), .int (md 19), .ref h8])), (h1, .inl (cB, 65536, .inl bf)), (h2, .inl (cI, 512, .inl mp)), (h3, .inl (cI, 512, .inl ml)), (h4, .inl (cJ, 520, .inr (.inl mn))), (h5, .inl (cI, 41, .inl mf)), (h6, .inl (cI, 8192, .inl sp)), (h7, .inl (cI, 8192, .inl sl)), (h8, .inl (cI, 11, .inl et))]) [0, 1, 2, 3, 4, 5, 6, 7, 8] rfl) (hD.sub (ws' := [(h0, .inr (7, [.int (md 0), .ref h1, .int sz, .int (md 1), .int (md 2), .int (md 3), .int (md 4), .int (md 5), .int (md 6), .int (md 7), .int (md 8), .int (md 9), .int (md 10), .int (md 11), .int (md 12), .int fr, .int (md 13), .ref h2, .ref h3, .int (md 14), .int (md 15), .ref h4, .ref h5, .ref h6, .ref h7, .int (md 16), .int (md 17), .int (md 18), .int (md 19), .ref h8])), (h1, .inl (cB, 65536, .inl bf)), (h2, .inl (cI, 512, .inl mp)), (h3, .inl (cI, 512, .inl ml)), (h4, .inl (cJ, 520, .inr (.inl mn))), (h5, .inl (cI, 41, .inl mf)), (h6, .inl (cI, 8192, .inl sp)), (h7, .inl (cI, 8192, .inl sl)), (h8, .inl (cI, 11, .inl et))]) [0, 1, 2, 3, 4, 5, 6, 7, 8] rfl rfl) rfl hl.1 (Nat.le_of_ble_eq_true rfl) d_Md_where_4) hP hS (fun H hP hS => ?_)
  refine W.eq (g2 := F0 m 7 ls [.int (M_Md_isStrip md mn p0 p1), .ref h0]) rfl ?_
  refine lv_if_eq (tgt := 23) hx hb d_Md_where_7 (by decide) (fun c_1 => ?_) (fun c_1 => ?_)
  · replace hG := gp_pos c_1 hG
    refine lv_iconst (v := 1) hx hb d_Md_where_23 (by decide) ?_
    refine va_put (D := D) (ci := 7) (v := .int 1) (ty := .int) (C := R_Md) (T := F_Md) (N := 30) hx hb (kl_Md hK.2) (fun _ h => h) t_Md t_Md_ok n_Md hown hK.1 hP hD hS 0 rfl rfl 0 (by decide) (hw kw_310) (fun _ h9 => h9) rfl (t_Md_ok 0 (by decide)) rfl rfl (Nat.le_of_ble_eq_true rfl) d_Md_where_24 (fun H locs hP hD hS => ?_)
    have hP : va_P D classes [(h0, .inr (7, [.int 1, .ref h1, .int sz, .int (md 1), .int (md 2), .int (md 3), .int (md 4), .int (md 5), .int (md 6), .int (md 7), .int (md 8), .int (md 9), .int (md 10), .int (md 11), .int (md 12), .int fr, .int (md 13), .ref h2, .ref h3, .int (md 14), .int (md 15), .ref h4, .ref h5, .ref h6, .ref h7, .int (md 16), .int (md 17), .int (md 18), .int (md 19), .ref h8])), (h1, .inl (cB, 65536, .inl bf)), (h2, .inl (cI, 512, .inl mp)), (h3, .inl (cI, 512, .inl ml)), (h4, .inl (cJ, 520, .inr (.inl mn))), (h5, .inl (cI, 41, .inl mf)), (h6, .inl (cI, 8192, .inl sp)), (h7, .inl (cI, 8192, .inl sl)), (h8, .inl (cI, 11, .inl et))] H := hP
    have hD : va_D A [(h0, .inr (7, [.int 1, .ref h1, .int sz, .int (md 1), .int (md 2), .int (md 3), .int (md 4), .int (md 5), .int (md 6), .int (md 7), .int (md 8), .int (md 9), .int (md 10), .int (md 11), .int (md 12), .int fr, .int (md 13), .ref h2, .ref h3, .int (md 14), .int (md 15), .ref h4, .ref h5, .ref h6, .ref h7, .int (md 16), .int (md 17), .int (md 18), .int (md 19), .ref h8])), (h1, .inl (cB, 65536, .inl bf)), (h2, .inl (cI, 512, .inl mp)), (h3, .inl (cI, 512, .inl ml)), (h4, .inl (cJ, 520, .inr (.inl mn))), (h5, .inl (cI, 41, .inl mf)), (h6, .inl (cI, 8192, .inl sp)), (h7, .inl (cI, 8192, .inl sl)), (h8, .inl (cI, 11, .inl et))] := hD
    refine lv_aload_n hx hb d_Md_where_27 rfl (lv_at hl 0 rfl) ?_
    refine va_get (D := D) (ci := 7) (C := R_Md) (T := F_Md) (N := 30) hx hb (kl_Md hK.2) (fun _ h => h) hown hK.1 hP 0 rfl rfl 0 (by decide) (hw kw_310) (fun _ h9 => h9) rfl d_Md_where_28 ?_
    refine lv_if_le (tgt := 38) hx hb d_Md_where_31 (by decide) (fun c => absurd c (by decide)) (fun _ => ?_)
    refine lv_iconst (v := 0) hx hb d_Md_where_34 (by decide) ?_
    refine lv_goto (tgt := 71) hx hb d_Md_where_35 (by decide) ?_
    have ef : M_Md_where md mn mf sp sl p0 p1 p2 = (0, (upd md 0 1)) := by unfold M_Md_where; (try dsimp only); rw [if_pos c_1]
    exact ct_iret hx hb hr rfl hlocks d_Md_where_71 ⟨Nat.zero_le _, Nat.zero_le _⟩ hQ hAe hS (0, (upd md 0 1)) rfl ef.symm (hP.sub [0, 1, 2, 3, 4, 5, 6, 7, 8] rfl) (hD.sub [0, 1, 2, 3, 4, 5, 6, 7, 8] rfl rfl)
  · replace hG := gp_neg c_1 hG
    refine lv_iload_n hx hb d_Md_where_10 rfl (lv_at hl 3 rfl) ?_
    refine lv_if_eq (tgt := 19) hx hb d_Md_where_11 (by decide) (fun c_2 => ?_) (fun c_2 => ?_)
    · replace hG := gp_pos c_2 hG
      refine lv_iconst (v := 0) hx hb d_Md_where_19 (by decide) ?_
      refine lv_goto (tgt := 24) hx hb d_Md_where_20 (by decide) ?_
      refine va_put (D := D) (ci := 7) (v := .int 0) (ty := .int) (C := R_Md) (T := F_Md) (N := 30) hx hb (kl_Md hK.2) (fun _ h => h) t_Md t_Md_ok n_Md hown hK.1 hP hD hS 0 rfl rfl 0 (by decide) (hw kw_310) (fun _ h9 => h9) rfl (t_Md_ok 0 (by decide)) rfl rfl (Nat.le_of_ble_eq_true rfl) d_Md_where_24 (fun H locs hP hD hS => ?_)
      have hP : va_P D classes [(h0, .inr (7, [.int 0, .ref h1, .int sz, .int (md 1), .int (md 2), .int (md 3), .int (md 4), .int (md 5), .int (md 6), .int (md 7), .int (md 8), .int (md 9), .int (md 10), .int (md 11), .int (md 12), .int fr, .int (md 13), .ref h2, .ref h3, .int (md 14), .int (md 15), .ref h4, .ref h5, .ref h6, .ref h7, .int (md 16), .int (md 17), .int (md 18), .int (md 19), .ref h8])), (h1, .inl (cB, 65536, .inl bf)), (h2, .inl (cI, 512, .inl mp)), (h3, .inl (cI, 512, .inl ml)), (h4, .inl (cJ, 520, .inr (.inl mn))), (h5, .inl (cI, 41, .inl mf)), (h6, .inl (cI, 8192, .inl sp)), (h7, .inl (cI, 8192, .inl sl)), (h8, .inl (cI, 11, .inl et))] H := hP
      have hD : va_D A [(h0, .inr (7, [.int 0, .ref h1, .int sz, .int (md 1), .int (md 2), .int (md 3), .int (md 4), .int (md 5), .int (md 6), .int (md 7), .int (md 8), .int (md 9), .int (md 10), .int (md 11), .int (md 12), .int fr, .int (md 13), .ref h2, .ref h3, .int (md 14), .int (md 15), .ref h4, .ref h5, .ref h6, .ref h7, .int (md 16), .int (md 17), .int (md 18), .int (md 19), .ref h8])), (h1, .inl (cB, 65536, .inl bf)), (h2, .inl (cI, 512, .inl mp)), (h3, .inl (cI, 512, .inl ml)), (h4, .inl (cJ, 520, .inr (.inl mn))), (h5, .inl (cI, 41, .inl mf)), (h6, .inl (cI, 8192, .inl sp)), (h7, .inl (cI, 8192, .inl sl)), (h8, .inl (cI, 11, .inl et))] := hD
      refine lv_aload_n hx hb d_Md_where_27 rfl (lv_at hl 0 rfl) ?_
      refine va_get (D := D) (ci := 7) (C := R_Md) (T := F_Md) (N := 30) hx hb (kl_Md hK.2) (fun _ h => h) hown hK.1 hP 0 rfl rfl 0 (by decide) (hw kw_310) (fun _ h9 => h9) rfl d_Md_where_28 ?_
      refine lv_if_le (tgt := 38) hx hb d_Md_where_31 (by decide) (fun _ => ?_) (fun c => absurd (by decide) c)
      refine lv_iload_n hx hb d_Md_where_38 rfl (lv_at hl 3 rfl) ?_
      refine lv_if_ne (tgt := 58) hx hb d_Md_where_39 (by decide) (fun c => absurd c_2 c) (fun _ => ?_)
      refine lv_aload_n hx hb d_Md_where_42 rfl (lv_at hl 0 rfl) ?_
      refine va_get (D := D) (ci := 7) (C := R_Md) (T := F_Md) (N := 30) hx hb (kl_Md hK.2) (fun _ h => h) hown hK.1 hP 0 rfl rfl 23 (by decide) (hw kw_398) (fun _ h9 => h9) rfl d_Md_where_43 ?_
      refine lv_aload_n hx hb d_Md_where_46 rfl (lv_at hl 0 rfl) ?_
      refine va_get (D := D) (ci := 7) (C := R_Md) (T := F_Md) (N := 30) hx hb (kl_Md hK.2) (fun _ h => h) hown hK.1 hP 0 rfl rfl 22 (by decide) (hw kw_396) (fun _ h9 => h9) rfl d_Md_where_47 ?_
      refine lv_iload_n hx hb d_Md_where_50 rfl (lv_at hl 1 rfl) ?_
      obtain ⟨g_5, hG⟩ := hG
      refine va_iald hx hb hK.1 hP 5 1 rfl rfl (g_5) d_Md_where_51 ?_
      refine lv_iload_n hx hb d_Md_where_52 rfl (lv_at hl 2 rfl) ?_
      refine lv_iadd hx hb d_Md_where_53 ?_
      have g_6 := hG
      refine va_iald hx hb hK.1 hP 6 1 rfl rfl (g_6) d_Md_where_54 ?_
      refine lv_goto (tgt := 71) hx hb d_Md_where_55 (by decide) ?_
      have ef : M_Md_where md mn mf sp sl p0 p1 p2 = ((sp ((mf p0.toNatClampNeg) + p1).toNatClampNeg), (upd md 0 0)) := by unfold M_Md_where; (try dsimp only); rw [if_neg c_1]; rw [if_pos c_2]
      exact ct_iret hx hb hr rfl hlocks d_Md_where_71 ⟨Nat.zero_le _, Nat.zero_le _⟩ hQ hAe hS ((sp ((mf p0.toNatClampNeg) + p1).toNatClampNeg), (upd md 0 0)) rfl ef.symm (hP.sub [0, 1, 2, 3, 4, 5, 6, 7, 8] rfl) (hD.sub [0, 1, 2, 3, 4, 5, 6, 7, 8] rfl rfl)
    · replace hG := gp_neg c_2 hG
      refine lv_iload_n hx hb d_Md_where_14 rfl (lv_at hl 3 rfl) ?_
      refine lv_iconst (v := 1) hx hb d_Md_where_15 (by decide) ?_
      refine lv_icmp_ne (tgt := 23) hx hb d_Md_where_16 (by decide) (fun c_3 => ?_) (fun c_3 => ?_)
      · replace hG := gp_neg c_3 hG
        refine lv_iconst (v := 1) hx hb d_Md_where_23 (by decide) ?_
        refine va_put (D := D) (ci := 7) (v := .int 1) (ty := .int) (C := R_Md) (T := F_Md) (N := 30) hx hb (kl_Md hK.2) (fun _ h => h) t_Md t_Md_ok n_Md hown hK.1 hP hD hS 0 rfl rfl 0 (by decide) (hw kw_310) (fun _ h9 => h9) rfl (t_Md_ok 0 (by decide)) rfl rfl (Nat.le_of_ble_eq_true rfl) d_Md_where_24 (fun H locs hP hD hS => ?_)
        have hP : va_P D classes [(h0, .inr (7, [.int 1, .ref h1, .int sz, .int (md 1), .int (md 2), .int (md 3), .int (md 4), .int (md 5), .int (md 6), .int (md 7), .int (md 8), .int (md 9), .int (md 10), .int (md 11), .int (md 12), .int fr, .int (md 13), .ref h2, .ref h3, .int (md 14), .int (md 15), .ref h4, .ref h5, .ref h6, .ref h7, .int (md 16), .int (md 17), .int (md 18), .int (md 19), .ref h8])), (h1, .inl (cB, 65536, .inl bf)), (h2, .inl (cI, 512, .inl mp)), (h3, .inl (cI, 512, .inl ml)), (h4, .inl (cJ, 520, .inr (.inl mn))), (h5, .inl (cI, 41, .inl mf)), (h6, .inl (cI, 8192, .inl sp)), (h7, .inl (cI, 8192, .inl sl)), (h8, .inl (cI, 11, .inl et))] H := hP
        have hD : va_D A [(h0, .inr (7, [.int 1, .ref h1, .int sz, .int (md 1), .int (md 2), .int (md 3), .int (md 4), .int (md 5), .int (md 6), .int (md 7), .int (md 8), .int (md 9), .int (md 10), .int (md 11), .int (md 12), .int fr, .int (md 13), .ref h2, .ref h3, .int (md 14), .int (md 15), .ref h4, .ref h5, .ref h6, .ref h7, .int (md 16), .int (md 17), .int (md 18), .int (md 19), .ref h8])), (h1, .inl (cB, 65536, .inl bf)), (h2, .inl (cI, 512, .inl mp)), (h3, .inl (cI, 512, .inl ml)), (h4, .inl (cJ, 520, .inr (.inl mn))), (h5, .inl (cI, 41, .inl mf)), (h6, .inl (cI, 8192, .inl sp)), (h7, .inl (cI, 8192, .inl sl)), (h8, .inl (cI, 11, .inl et))] := hD
        refine lv_aload_n hx hb d_Md_where_27 rfl (lv_at hl 0 rfl) ?_
        refine va_get (D := D) (ci := 7) (C := R_Md) (T := F_Md) (N := 30) hx hb (kl_Md hK.2) (fun _ h => h) hown hK.1 hP 0 rfl rfl 0 (by decide) (hw kw_310) (fun _ h9 => h9) rfl d_Md_where_28 ?_
        refine lv_if_le (tgt := 38) hx hb d_Md_where_31 (by decide) (fun c => absurd c (by decide)) (fun _ => ?_)
        refine lv_iconst (v := 0) hx hb d_Md_where_34 (by decide) ?_
        refine lv_goto (tgt := 71) hx hb d_Md_where_35 (by decide) ?_
        have ef : M_Md_where md mn mf sp sl p0 p1 p2 = (0, (upd md 0 1)) := by unfold M_Md_where; (try dsimp only); rw [if_neg c_1]; rw [if_neg c_2]; rw [if_neg c_3]
        exact ct_iret hx hb hr rfl hlocks d_Md_where_71 ⟨Nat.zero_le _, Nat.zero_le _⟩ hQ hAe hS (0, (upd md 0 1)) rfl ef.symm (hP.sub [0, 1, 2, 3, 4, 5, 6, 7, 8] rfl) (hD.sub [0, 1, 2, 3, 4, 5, 6, 7, 8] rfl rfl)
      · replace hG := gp_pos c_3 hG
        refine lv_iconst (v := 0) hx hb d_Md_where_19 (by decide) ?_
        refine lv_goto (tgt := 24) hx hb d_Md_where_20 (by decide) ?_
        refine va_put (D := D) (ci := 7) (v := .int 0) (ty := .int) (C := R_Md) (T := F_Md) (N := 30) hx hb (kl_Md hK.2) (fun _ h => h) t_Md t_Md_ok n_Md hown hK.1 hP hD hS 0 rfl rfl 0 (by decide) (hw kw_310) (fun _ h9 => h9) rfl (t_Md_ok 0 (by decide)) rfl rfl (Nat.le_of_ble_eq_true rfl) d_Md_where_24 (fun H locs hP hD hS => ?_)
        have hP : va_P D classes [(h0, .inr (7, [.int 0, .ref h1, .int sz, .int (md 1), .int (md 2), .int (md 3), .int (md 4), .int (md 5), .int (md 6), .int (md 7), .int (md 8), .int (md 9), .int (md 10), .int (md 11), .int (md 12), .int fr, .int (md 13), .ref h2, .ref h3, .int (md 14), .int (md 15), .ref h4, .ref h5, .ref h6, .ref h7, .int (md 16), .int (md 17), .int (md 18), .int (md 19), .ref h8])), (h1, .inl (cB, 65536, .inl bf)), (h2, .inl (cI, 512, .inl mp)), (h3, .inl (cI, 512, .inl ml)), (h4, .inl (cJ, 520, .inr (.inl mn))), (h5, .inl (cI, 41, .inl mf)), (h6, .inl (cI, 8192, .inl sp)), (h7, .inl (cI, 8192, .inl sl)), (h8, .inl (cI, 11, .inl et))] H := hP
        have hD : va_D A [(h0, .inr (7, [.int 0, .ref h1, .int sz, .int (md 1), .int (md 2), .int (md 3), .int (md 4), .int (md 5), .int (md 6), .int (md 7), .int (md 8), .int (md 9), .int (md 10), .int (md 11), .int (md 12), .int fr, .int (md 13), .ref h2, .ref h3, .int (md 14), .int (md 15), .ref h4, .ref h5, .ref h6, .ref h7, .int (md 16), .int (md 17), .int (md 18), .int (md 19), .ref h8])), (h1, .inl (cB, 65536, .inl bf)), (h2, .inl (cI, 512, .inl mp)), (h3, .inl (cI, 512, .inl ml)), (h4, .inl (cJ, 520, .inr (.inl mn))), (h5, .inl (cI, 41, .inl mf)), (h6, .inl (cI, 8192, .inl sp)), (h7, .inl (cI, 8192, .inl sl)), (h8, .inl (cI, 11, .inl et))] := hD
        refine lv_aload_n hx hb d_Md_where_27 rfl (lv_at hl 0 rfl) ?_
        refine va_get (D := D) (ci := 7) (C := R_Md) (T := F_Md) (N := 30) hx hb (kl_Md hK.2) (fun _ h => h) hown hK.1 hP 0 rfl rfl 0 (by decide) (hw kw_310) (fun _ h9 => h9) rfl d_Md_where_28 ?_
        refine lv_if_le (tgt := 38) hx hb d_Md_where_31 (by decide) (fun _ => ?_) (fun c => absurd (by decide) c)
        refine lv_iload_n hx hb d_Md_where_38 rfl (lv_at hl 3 rfl) ?_
        refine lv_if_ne (tgt := 58) hx hb d_Md_where_39 (by decide) (fun _ => ?_) (fun c => absurd c c_2)
        refine lv_aload_n hx hb d_Md_where_58 rfl (lv_at hl 0 rfl) ?_
        refine va_get (D := D) (ci := 7) (C := R_Md) (T := F_Md) (N := 30) hx hb (kl_Md hK.2) (fun _ h => h) hown hK.1 hP 0 rfl rfl 24 (by decide) (hw kw_399) (fun _ h9 => h9) rfl d_Md_where_59 ?_
        refine lv_aload_n hx hb d_Md_where_62 rfl (lv_at hl 0 rfl) ?_
        refine va_get (D := D) (ci := 7) (C := R_Md) (T := F_Md) (N := 30) hx hb (kl_Md hK.2) (fun _ h => h) hown hK.1 hP 0 rfl rfl 22 (by decide) (hw kw_396) (fun _ h9 => h9) rfl d_Md_where_63 ?_
        refine lv_iload_n hx hb d_Md_where_66 rfl (lv_at hl 1 rfl) ?_
        obtain ⟨g_10, hG⟩ := hG
        refine va_iald hx hb hK.1 hP 5 1 rfl rfl (g_10) d_Md_where_67 ?_
        refine lv_iload_n hx hb d_Md_where_68 rfl (lv_at hl 2 rfl) ?_
        refine lv_iadd hx hb d_Md_where_69 ?_
        have g_11 := hG
        refine va_iald hx hb hK.1 hP 7 1 rfl rfl (g_11) d_Md_where_70 ?_
        have ef : M_Md_where md mn mf sp sl p0 p1 p2 = ((sl ((mf p0.toNatClampNeg) + p1).toNatClampNeg), (upd md 0 0)) := by unfold M_Md_where; (try dsimp only); rw [if_neg c_1]; rw [if_neg c_2]; rw [if_pos c_3]
        exact ct_iret hx hb hr rfl hlocks d_Md_where_71 ⟨Nat.zero_le _, Nat.zero_le _⟩ hQ hAe hS ((sl ((mf p0.toNatClampNeg) + p1).toNatClampNeg), (upd md 0 0)) rfl ef.symm (hP.sub [0, 1, 2, 3, 4, 5, 6, 7, 8] rfl) (hD.sub [0, 1, 2, 3, 4, 5, 6, 7, 8] rfl rfl)
set_option maxHeartbeats 4000000 in
set_option maxRecDepth 100000 in
theorem c_Md_dots {l : Launch} {D : va_G} {cB cI cJ : ClassId} (h0 h1 h2 h3 h4 h5 h6 h7 h8 : Nat) (md : Nat → Int32) (sz : Int32) (fr : Int32) (bf : Nat → Int32) (mp : Nat → Int32) (ml : Nat → Int32) (mn : Nat → Int64) (mf : Nat → Int32) (sp : Nat → Int32) (sl : Nat → Int32) (et : Nat → Int32) (p0 : Int32) (p1 : Int32) (p2 : Int32) (hG : G_Md_dots md sz mn mf sp sl p0 p1 p2) : Ct classes BW l D (TY cB cI cJ) y_Md_dots b_Md_dots 5 (some .int) ({ frames := 1, cells := 0, slots := 0, locals := 22 } : Room) [.ref h0, .int p0, .int p1, .int p2] [(h0, .inr (7, [.int (md 0), .ref h1, .int sz, .int (md 1), .int (md 2), .int (md 3), .int (md 4), .int (md 5), .int (md 6), .int (md 7), .int (md 8), .int (md 9), .int (md 10), .int (md 11), .int (md 12), .int fr, .int (md 13), .ref h2, .ref h3, .int (md 14), .int (md 15), .ref h4, .ref h5, .ref h6, .ref h7, .int (md 16), .int (md 17), .int (md 18), .int (md 19), .ref h8])), (h1, .inl (cB, 65536, .inl bf)), (h2, .inl (cI, 512, .inl mp)), (h3, .inl (cI, 512, .inl ml)), (h4, .inl (cJ, 520, .inr (.inl mn))), (h5, .inl (cI, 41, .inl mf)), (h6, .inl (cI, 8192, .inl sp)), (h7, .inl (cI, 8192, .inl sl)), (h8, .inl (cI, 11, .inl et))] (fun u : Int32 × (Nat → Int32) => u = M_Md_dots md sz bf mn mf sp sl p0 p1 p2) (fun u => some (.int u.1)) (fun u => [(h0, .inr (7, [.int (u.2 0), .ref h1, .int sz, .int (u.2 1), .int (u.2 2), .int (u.2 3), .int (u.2 4), .int (u.2 5), .int (u.2 6), .int (u.2 7), .int (u.2 8), .int (u.2 9), .int (u.2 10), .int (u.2 11), .int (u.2 12), .int fr, .int (u.2 13), .ref h2, .ref h3, .int (u.2 14), .int (u.2 15), .ref h4, .ref h5, .ref h6, .ref h7, .int (u.2 16), .int (u.2 17), .int (u.2 18), .int (u.2 19), .ref h8])), (h1, .inl (cB, 65536, .inl bf)), (h2, .inl (cI, 512, .inl mp)), (h3, .inl (cI, 512, .inl ml)), (h4, .inl (cJ, 520, .inr (.inl mn))), (h5, .inl (cI, 41, .inl mf)), (h6, .inl (cI, 8192, .inl sp)), (h7, .inl (cI, 8192, .inl sl)), (h8, .inl (cI, 11, .inl et))]) (0) (0) := by
  refine Ct.intro (by decide +kernel) (Nat.le_of_ble_eq_true rfl) ?_
  intro p e s m below meth c hx hb hr hml hlocks hnm hown hK A hAe hA hS hP hD ls hl Q hQ
  have hown : s.vm.findClass "PictureFileModel" = some m.cls := hown
  have hH : Hold classes BW D (TY cB cI cJ) p s m c b_Md_dots 5 "PictureFileModel" := ⟨bw_ok, hx, hb, hml, hown, hK⟩
  have hw : ∀ {w : Cond}, w ∈ BW → w.before ([.ref h0, .int p0, .int p1, .int p2] : List Value).toArray s = true := fun h => Wd.at bw_ok hK.2 h
  have hl : lv_has ls 5 [(0, .ref h0), (1, .int p0), (2, .int p1), (3, .int p2)] := hl
  unfold G_Md_dots at hG
  refine lv_aload_n hx hb d_Md_dots_0 rfl (lv_at hl 0 rfl) ?_
  refine lv_aload_n hx hb d_Md_dots_1 rfl (lv_at hl 0 rfl) ?_
  refine lv_iload_n hx hb d_Md_dots_2 rfl (lv_at hl 1 rfl) ?_
  refine lv_iload_n hx hb d_Md_dots_3 rfl (lv_at hl 2 rfl) ?_
  obtain ⟨g_1, hG⟩ := hG
  refine ct_finP (ct_runV (n := 2) (C := R_Md) (b := h0) (As := [.int p0, .int p1]) (rest := [.ref h0]) hH (c_Md_isStrip h0 h1 h2 h3 h4 h5 h6 h7 h8 md sz fr bf mp ml mn mf sp sl et p0 p1 g_1 _) ⟨cal_Md_isStrip, ⟨Nat.le_of_ble_eq_true rfl, Nat.le_of_ble_eq_true rfl⟩, (Nat.le_of_ble_eq_true rfl), (Nat.le_of_ble_eq_true rfl)⟩ kw_432 kw_433 kw_316 kw_434 kw_435 (va_recv hK.1 hP (ci := 7) (q0 := 0) rfl rfl) (hP.sub (ws' := [(h0, .inr (7, [.int (md 0), .ref h1, .int sz, .int (md 1), .int (md 2), .int (md 3), .int (md 4), .int (md 5), .int (md 6), .int (md 7), .int (md 8), .int (md 9), .int (md 10), .int (md 11), .int (md 12), .int fr, .int (md 13), .ref h2, .ref h3, .int (md 14), .int (md 15), .ref h4, .ref h5, .ref h6, .ref h7, .int (md 16), .int (md 17), .int (md 18), .int (md 19), .ref h8])), (h1, .inl (cB, 65536, .inl bf)), (h2, .inl (cI, 512, .inl mp)), (h3, .inl (cI, 512, .inl ml)), (h4, .inl (cJ, 520, .inr (.inl mn))), (h5, .inl (cI, 41, .inl mf)), (h6, .inl (cI, 8192, .inl sp)), (h7, .inl (cI, 8192, .inl sl)), (h8, .inl (cI, 11, .inl et))]) [0, 1, 2, 3, 4, 5, 6, 7, 8] rfl) (hD.sub (ws' := [(h0, .inr (7, [.int (md 0), .ref h1, .int sz, .int (md 1), .int (md 2), .int (md 3), .int (md 4), .int (md 5), .int (md 6), .int (md 7), .int (md 8), .int (md 9), .int (md 10), .int (md 11), .int (md 12), .int fr, .int (md 13), .ref h2, .ref h3, .int (md 14), .int (md 15), .ref h4, .ref h5, .ref h6, .ref h7, .int (md 16), .int (md 17), .int (md 18), .int (md 19), .ref h8])), (h1, .inl (cB, 65536, .inl bf)), (h2, .inl (cI, 512, .inl mp)), (h3, .inl (cI, 512, .inl ml)), (h4, .inl (cJ, 520, .inr (.inl mn))), (h5, .inl (cI, 41, .inl mf)), (h6, .inl (cI, 8192, .inl sp)), (h7, .inl (cI, 8192, .inl sl)), (h8, .inl (cI, 11, .inl et))]) [0, 1, 2, 3, 4, 5, 6, 7, 8] rfl rfl) rfl hl.1 (Nat.le_of_ble_eq_true rfl) d_Md_dots_4) hP hS (fun H hP hS => ?_)
  refine W.eq (g2 := F0 m 7 ls [.int (M_Md_isStrip md mn p0 p1), .ref h0]) rfl ?_
  refine lv_if_eq (tgt := 14) hx hb d_Md_dots_7 (by decide) (fun c_1 => ?_) (fun c_1 => ?_)
  · replace hG := gp_pos c_1 hG
    refine lv_iconst (v := 1) hx hb d_Md_dots_14 (by decide) ?_
    refine va_put (D := D) (ci := 7) (v := .int 1) (ty := .int) (C := R_Md) (T := F_Md) (N := 30) hx hb (kl_Md hK.2) (fun _ h => h) t_Md t_Md_ok n_Md hown hK.1 hP hD hS 0 rfl rfl 0 (by decide) (hw kw_310) (fun _ h9 => h9) rfl (t_Md_ok 0 (by decide)) rfl rfl (Nat.le_of_ble_eq_true rfl) d_Md_dots_15 (fun H locs hP hD hS => ?_)
    have hP : va_P D classes [(h0, .inr (7, [.int 1, .ref h1, .int sz, .int (md 1), .int (md 2), .int (md 3), .int (md 4), .int (md 5), .int (md 6), .int (md 7), .int (md 8), .int (md 9), .int (md 10), .int (md 11), .int (md 12), .int fr, .int (md 13), .ref h2, .ref h3, .int (md 14), .int (md 15), .ref h4, .ref h5, .ref h6, .ref h7, .int (md 16), .int (md 17), .int (md 18), .int (md 19), .ref h8])), (h1, .inl (cB, 65536, .inl bf)), (h2, .inl (cI, 512, .inl mp)), (h3, .inl (cI, 512, .inl ml)), (h4, .inl (cJ, 520, .inr (.inl mn))), (h5, .inl (cI, 41, .inl mf)), (h6, .inl (cI, 8192, .inl sp)), (h7, .inl (cI, 8192, .inl sl)), (h8, .inl (cI, 11, .inl et))] H := hP
    have hD : va_D A [(h0, .inr (7, [.int 1, .ref h1, .int sz, .int (md 1), .int (md 2), .int (md 3), .int (md 4), .int (md 5), .int (md 6), .int (md 7), .int (md 8), .int (md 9), .int (md 10), .int (md 11), .int (md 12), .int fr, .int (md 13), .ref h2, .ref h3, .int (md 14), .int (md 15), .ref h4, .ref h5, .ref h6, .ref h7, .int (md 16), .int (md 17), .int (md 18), .int (md 19), .ref h8])), (h1, .inl (cB, 65536, .inl bf)), (h2, .inl (cI, 512, .inl mp)), (h3, .inl (cI, 512, .inl ml)), (h4, .inl (cJ, 520, .inr (.inl mn))), (h5, .inl (cI, 41, .inl mf)), (h6, .inl (cI, 8192, .inl sp)), (h7, .inl (cI, 8192, .inl sl)), (h8, .inl (cI, 11, .inl et))] := hD
    refine lv_aload_n hx hb d_Md_dots_18 rfl (lv_at hl 0 rfl) ?_
    refine va_get (D := D) (ci := 7) (C := R_Md) (T := F_Md) (N := 30) hx hb (kl_Md hK.2) (fun _ h => h) hown hK.1 hP 0 rfl rfl 0 (by decide) (hw kw_310) (fun _ h9 => h9) rfl d_Md_dots_19 ?_
    refine lv_if_le (tgt := 27) hx hb d_Md_dots_22 (by decide) (fun c => absurd c (by decide)) (fun _ => ?_)
    refine lv_iconst (v := 0) hx hb d_Md_dots_25 (by decide) ?_
    have ef : M_Md_dots md sz bf mn mf sp sl p0 p1 p2 = (0, (upd md 0 1)) := by unfold M_Md_dots; (try dsimp only); rw [if_pos c_1]
    exact ct_iret hx hb hr rfl hlocks d_Md_dots_26 ⟨Nat.zero_le _, Nat.zero_le _⟩ hQ hAe hS (0, (upd md 0 1)) rfl ef.symm (hP.sub [0, 1, 2, 3, 4, 5, 6, 7, 8] rfl) (hD.sub [0, 1, 2, 3, 4, 5, 6, 7, 8] rfl rfl)
  · replace hG := gp_neg c_1 hG
    refine lv_iconst (v := 0) hx hb d_Md_dots_10 (by decide) ?_
    refine lv_goto (tgt := 15) hx hb d_Md_dots_11 (by decide) ?_
    refine va_put (D := D) (ci := 7) (v := .int 0) (ty := .int) (C := R_Md) (T := F_Md) (N := 30) hx hb (kl_Md hK.2) (fun _ h => h) t_Md t_Md_ok n_Md hown hK.1 hP hD hS 0 rfl rfl 0 (by decide) (hw kw_310) (fun _ h9 => h9) rfl (t_Md_ok 0 (by decide)) rfl rfl (Nat.le_of_ble_eq_true rfl) d_Md_dots_15 (fun H locs hP hD hS => ?_)
    have hP : va_P D classes [(h0, .inr (7, [.int 0, .ref h1, .int sz, .int (md 1), .int (md 2), .int (md 3), .int (md 4), .int (md 5), .int (md 6), .int (md 7), .int (md 8), .int (md 9), .int (md 10), .int (md 11), .int (md 12), .int fr, .int (md 13), .ref h2, .ref h3, .int (md 14), .int (md 15), .ref h4, .ref h5, .ref h6, .ref h7, .int (md 16), .int (md 17), .int (md 18), .int (md 19), .ref h8])), (h1, .inl (cB, 65536, .inl bf)), (h2, .inl (cI, 512, .inl mp)), (h3, .inl (cI, 512, .inl ml)), (h4, .inl (cJ, 520, .inr (.inl mn))), (h5, .inl (cI, 41, .inl mf)), (h6, .inl (cI, 8192, .inl sp)), (h7, .inl (cI, 8192, .inl sl)), (h8, .inl (cI, 11, .inl et))] H := hP
    have hD : va_D A [(h0, .inr (7, [.int 0, .ref h1, .int sz, .int (md 1), .int (md 2), .int (md 3), .int (md 4), .int (md 5), .int (md 6), .int (md 7), .int (md 8), .int (md 9), .int (md 10), .int (md 11), .int (md 12), .int fr, .int (md 13), .ref h2, .ref h3, .int (md 14), .int (md 15), .ref h4, .ref h5, .ref h6, .ref h7, .int (md 16), .int (md 17), .int (md 18), .int (md 19), .ref h8])), (h1, .inl (cB, 65536, .inl bf)), (h2, .inl (cI, 512, .inl mp)), (h3, .inl (cI, 512, .inl ml)), (h4, .inl (cJ, 520, .inr (.inl mn))), (h5, .inl (cI, 41, .inl mf)), (h6, .inl (cI, 8192, .inl sp)), (h7, .inl (cI, 8192, .inl sl)), (h8, .inl (cI, 11, .inl et))] := hD
    refine lv_aload_n hx hb d_Md_dots_18 rfl (lv_at hl 0 rfl) ?_
    refine va_get (D := D) (ci := 7) (C := R_Md) (T := F_Md) (N := 30) hx hb (kl_Md hK.2) (fun _ h => h) hown hK.1 hP 0 rfl rfl 0 (by decide) (hw kw_310) (fun _ h9 => h9) rfl d_Md_dots_19 ?_
    refine lv_if_le (tgt := 27) hx hb d_Md_dots_22 (by decide) (fun _ => ?_) (fun c => absurd (by decide) c)
    refine lv_aload_n hx hb d_Md_dots_27 rfl (lv_at hl 0 rfl) ?_
    refine va_get (D := D) (ci := 7) (C := R_Md) (T := F_Md) (N := 30) hx hb (kl_Md hK.2) (fun _ h => h) hown hK.1 hP 0 rfl rfl 22 (by decide) (hw kw_396) (fun _ h9 => h9) rfl d_Md_dots_28 ?_
    refine lv_iload_n hx hb d_Md_dots_31 rfl (lv_at hl 1 rfl) ?_
    obtain ⟨g_4, hG⟩ := hG
    refine va_iald hx hb hK.1 hP 5 1 rfl rfl (g_4) d_Md_dots_32 ?_
    refine lv_iload_n hx hb d_Md_dots_33 rfl (lv_at hl 2 rfl) ?_
    refine lv_iadd hx hb d_Md_dots_34 ?_
    refine lv_topi (fun y1 e1 => ?_)
    replace hG := hG y1 e1
    refine lv_istore (lv' := [(4, .int y1), (0, .ref h0), (1, .int p0), (2, .int p1), (3, .int p2)]) hx hb d_Md_dots_35 hl (by decide) rfl (fun ls hl => ?_)
    refine lv_aload_n hx hb d_Md_dots_37 rfl (lv_at hl 1 rfl) ?_
    refine lv_iload_n hx hb d_Md_dots_38 rfl (lv_at hl 4 rfl) ?_
    refine lv_if_lt (tgt := 73) hx hb d_Md_dots_39 (by decide) (fun c_2 => ?_) (fun c_2 => ?_)
    · replace hG := gp_pos c_2 hG
      refine lv_iconst (v := 1) hx hb d_Md_dots_73 (by decide) ?_
      refine va_put (D := D) (ci := 7) (v := .int 1) (ty := .int) (C := R_Md) (T := F_Md) (N := 30) hx hb (kl_Md hK.2) (fun _ h => h) t_Md t_Md_ok n_Md hown hK.1 hP hD hS 0 rfl rfl 0 (by decide) (hw kw_310) (fun _ h9 => h9) rfl (t_Md_ok 0 (by decide)) rfl rfl (Nat.le_of_ble_eq_true rfl) d_Md_dots_74 (fun H locs hP hD hS => ?_)
      have hP : va_P D classes [(h0, .inr (7, [.int 1, .ref h1, .int sz, .int (md 1), .int (md 2), .int (md 3), .int (md 4), .int (md 5), .int (md 6), .int (md 7), .int (md 8), .int (md 9), .int (md 10), .int (md 11), .int (md 12), .int fr, .int (md 13), .ref h2, .ref h3, .int (md 14), .int (md 15), .ref h4, .ref h5, .ref h6, .ref h7, .int (md 16), .int (md 17), .int (md 18), .int (md 19), .ref h8])), (h1, .inl (cB, 65536, .inl bf)), (h2, .inl (cI, 512, .inl mp)), (h3, .inl (cI, 512, .inl ml)), (h4, .inl (cJ, 520, .inr (.inl mn))), (h5, .inl (cI, 41, .inl mf)), (h6, .inl (cI, 8192, .inl sp)), (h7, .inl (cI, 8192, .inl sl)), (h8, .inl (cI, 11, .inl et))] H := hP
      have hD : va_D A [(h0, .inr (7, [.int 1, .ref h1, .int sz, .int (md 1), .int (md 2), .int (md 3), .int (md 4), .int (md 5), .int (md 6), .int (md 7), .int (md 8), .int (md 9), .int (md 10), .int (md 11), .int (md 12), .int fr, .int (md 13), .ref h2, .ref h3, .int (md 14), .int (md 15), .ref h4, .ref h5, .ref h6, .ref h7, .int (md 16), .int (md 17), .int (md 18), .int (md 19), .ref h8])), (h1, .inl (cB, 65536, .inl bf)), (h2, .inl (cI, 512, .inl mp)), (h3, .inl (cI, 512, .inl ml)), (h4, .inl (cJ, 520, .inr (.inl mn))), (h5, .inl (cI, 41, .inl mf)), (h6, .inl (cI, 8192, .inl sp)), (h7, .inl (cI, 8192, .inl sl)), (h8, .inl (cI, 11, .inl et))] := hD
      refine lv_aload_n hx hb d_Md_dots_77 rfl (lv_at hl 1 rfl) ?_
      refine va_get (D := D) (ci := 7) (C := R_Md) (T := F_Md) (N := 30) hx hb (kl_Md hK.2) (fun _ h => h) hown hK.1 hP 0 rfl rfl 0 (by decide) (hw kw_310) (fun _ h9 => h9) rfl d_Md_dots_78 ?_
      refine lv_if_le (tgt := 88) hx hb d_Md_dots_81 (by decide) (fun c => absurd c (by decide)) (fun _ => ?_)
      refine lv_iconst (v := 0) hx hb d_Md_dots_84 (by decide) ?_
      refine lv_goto (tgt := 101) hx hb d_Md_dots_85 (by decide) ?_
      have ef : M_Md_dots md sz bf mn mf sp sl p0 p1 p2 = (0, (upd md 0 1)) := by unfold M_Md_dots; (try dsimp only); rw [if_neg c_1]; (try rw [← e1]); rw [if_pos c_2]
      exact ct_iret hx hb hr rfl hlocks d_Md_dots_101 ⟨Nat.zero_le _, Nat.zero_le _⟩ hQ hAe hS (0, (upd md 0 1)) rfl ef.symm (hP.sub [0, 1, 2, 3, 4, 5, 6, 7, 8] rfl) (hD.sub [0, 1, 2, 3, 4, 5, 6, 7, 8] rfl rfl)
    · replace hG := gp_neg c_2 hG
      refine lv_iload_n hx hb d_Md_dots_42 rfl (lv_at hl 4 rfl) ?_
      refine lv_aload_n hx hb d_Md_dots_43 rfl (lv_at hl 1 rfl) ?_
      refine va_get (D := D) (ci := 7) (C := R_Md) (T := F_Md) (N := 30) hx hb (kl_Md hK.2) (fun _ h => h) hown hK.1 hP 0 rfl rfl 24 (by decide) (hw kw_399) (fun _ h9 => h9) rfl d_Md_dots_44 ?_
      refine lv_iload hx hb d_Md_dots_47 (lv_at hl 0 rfl) ?_
      obtain ⟨g_8, hG⟩ := hG
      refine va_iald hx hb hK.1 hP 7 1 rfl rfl (g_8) d_Md_dots_49 ?_
      refine lv_icmp_ge (tgt := 73) hx hb d_Md_dots_50 (by decide) (fun c_3 => ?_) (fun c_3 => ?_)
      · replace hG := gp_pos c_3 hG
        refine lv_iconst (v := 1) hx hb d_Md_dots_73 (by decide) ?_
        refine va_put (D := D) (ci := 7) (v := .int 1) (ty := .int) (C := R_Md) (T := F_Md) (N := 30) hx hb (kl_Md hK.2) (fun _ h => h) t_Md t_Md_ok n_Md hown hK.1 hP hD hS 0 rfl rfl 0 (by decide) (hw kw_310) (fun _ h9 => h9) rfl (t_Md_ok 0 (by decide)) rfl rfl (Nat.le_of_ble_eq_true rfl) d_Md_dots_74 (fun H locs hP hD hS => ?_)
        have hP : va_P D classes [(h0, .inr (7, [.int 1, .ref h1, .int sz, .int (md 1), .int (md 2), .int (md 3), .int (md 4), .int (md 5), .int (md 6), .int (md 7), .int (md 8), .int (md 9), .int (md 10), .int (md 11), .int (md 12), .int fr, .int (md 13), .ref h2, .ref h3, .int (md 14), .int (md 15), .ref h4, .ref h5, .ref h6, .ref h7, .int (md 16), .int (md 17), .int (md 18), .int (md 19), .ref h8])), (h1, .inl (cB, 65536, .inl bf)), (h2, .inl (cI, 512, .inl mp)), (h3, .inl (cI, 512, .inl ml)), (h4, .inl (cJ, 520, .inr (.inl mn))), (h5, .inl (cI, 41, .inl mf)), (h6, .inl (cI, 8192, .inl sp)), (h7, .inl (cI, 8192, .inl sl)), (h8, .inl (cI, 11, .inl et))] H := hP
        have hD : va_D A [(h0, .inr (7, [.int 1, .ref h1, .int sz, .int (md 1), .int (md 2), .int (md 3), .int (md 4), .int (md 5), .int (md 6), .int (md 7), .int (md 8), .int (md 9), .int (md 10), .int (md 11), .int (md 12), .int fr, .int (md 13), .ref h2, .ref h3, .int (md 14), .int (md 15), .ref h4, .ref h5, .ref h6, .ref h7, .int (md 16), .int (md 17), .int (md 18), .int (md 19), .ref h8])), (h1, .inl (cB, 65536, .inl bf)), (h2, .inl (cI, 512, .inl mp)), (h3, .inl (cI, 512, .inl ml)), (h4, .inl (cJ, 520, .inr (.inl mn))), (h5, .inl (cI, 41, .inl mf)), (h6, .inl (cI, 8192, .inl sp)), (h7, .inl (cI, 8192, .inl sl)), (h8, .inl (cI, 11, .inl et))] := hD
        refine lv_aload_n hx hb d_Md_dots_77 rfl (lv_at hl 1 rfl) ?_
        refine va_get (D := D) (ci := 7) (C := R_Md) (T := F_Md) (N := 30) hx hb (kl_Md hK.2) (fun _ h => h) hown hK.1 hP 0 rfl rfl 0 (by decide) (hw kw_310) (fun _ h9 => h9) rfl d_Md_dots_78 ?_
        refine lv_if_le (tgt := 88) hx hb d_Md_dots_81 (by decide) (fun c => absurd c (by decide)) (fun _ => ?_)
        refine lv_iconst (v := 0) hx hb d_Md_dots_84 (by decide) ?_
        refine lv_goto (tgt := 101) hx hb d_Md_dots_85 (by decide) ?_
        have ef : M_Md_dots md sz bf mn mf sp sl p0 p1 p2 = (0, (upd md 0 1)) := by unfold M_Md_dots; (try dsimp only); rw [if_neg c_1]; (try rw [← e1]); rw [if_neg c_2]; rw [if_pos c_3]
        exact ct_iret hx hb hr rfl hlocks d_Md_dots_101 ⟨Nat.zero_le _, Nat.zero_le _⟩ hQ hAe hS (0, (upd md 0 1)) rfl ef.symm (hP.sub [0, 1, 2, 3, 4, 5, 6, 7, 8] rfl) (hD.sub [0, 1, 2, 3, 4, 5, 6, 7, 8] rfl rfl)
      · replace hG := gp_neg c_3 hG
        refine lv_aload_n hx hb d_Md_dots_53 rfl (lv_at hl 1 rfl) ?_
        refine va_get (D := D) (ci := 7) (C := R_Md) (T := F_Md) (N := 30) hx hb (kl_Md hK.2) (fun _ h => h) hown hK.1 hP 0 rfl rfl 23 (by decide) (hw kw_398) (fun _ h9 => h9) rfl d_Md_dots_54 ?_
        refine lv_iload hx hb d_Md_dots_57 (lv_at hl 0 rfl) ?_
        obtain ⟨g_11, hG⟩ := hG
        refine va_iald hx hb hK.1 hP 6 1 rfl rfl (g_11) d_Md_dots_59 ?_
        refine lv_iload_n hx hb d_Md_dots_60 rfl (lv_at hl 4 rfl) ?_
        refine lv_iadd hx hb d_Md_dots_61 ?_
        refine lv_aload_n hx hb d_Md_dots_62 rfl (lv_at hl 1 rfl) ?_
        refine va_get (D := D) (ci := 7) (C := R_Md) (T := F_Md) (N := 30) hx hb (kl_Md hK.2) (fun _ h => h) hown hK.1 hP 0 rfl rfl 2 (by decide) (hw kw_312) (fun _ h9 => h9) rfl d_Md_dots_63 ?_
        refine lv_icmp_ge (tgt := 73) hx hb d_Md_dots_66 (by decide) (fun c_4 => ?_) (fun c_4 => ?_)
        · replace hG := gp_pos c_4 hG
          refine lv_iconst (v := 1) hx hb d_Md_dots_73 (by decide) ?_
          refine va_put (D := D) (ci := 7) (v := .int 1) (ty := .int) (C := R_Md) (T := F_Md) (N := 30) hx hb (kl_Md hK.2) (fun _ h => h) t_Md t_Md_ok n_Md hown hK.1 hP hD hS 0 rfl rfl 0 (by decide) (hw kw_310) (fun _ h9 => h9) rfl (t_Md_ok 0 (by decide)) rfl rfl (Nat.le_of_ble_eq_true rfl) d_Md_dots_74 (fun H locs hP hD hS => ?_)
          have hP : va_P D classes [(h0, .inr (7, [.int 1, .ref h1, .int sz, .int (md 1), .int (md 2), .int (md 3), .int (md 4), .int (md 5), .int (md 6), .int (md 7), .int (md 8), .int (md 9), .int (md 10), .int (md 11), .int (md 12), .int fr, .int (md 13), .ref h2, .ref h3, .int (md 14), .int (md 15), .ref h4, .ref h5, .ref h6, .ref h7, .int (md 16), .int (md 17), .int (md 18), .int (md 19), .ref h8])), (h1, .inl (cB, 65536, .inl bf)), (h2, .inl (cI, 512, .inl mp)), (h3, .inl (cI, 512, .inl ml)), (h4, .inl (cJ, 520, .inr (.inl mn))), (h5, .inl (cI, 41, .inl mf)), (h6, .inl (cI, 8192, .inl sp)), (h7, .inl (cI, 8192, .inl sl)), (h8, .inl (cI, 11, .inl et))] H := hP
          have hD : va_D A [(h0, .inr (7, [.int 1, .ref h1, .int sz, .int (md 1), .int (md 2), .int (md 3), .int (md 4), .int (md 5), .int (md 6), .int (md 7), .int (md 8), .int (md 9), .int (md 10), .int (md 11), .int (md 12), .int fr, .int (md 13), .ref h2, .ref h3, .int (md 14), .int (md 15), .ref h4, .ref h5, .ref h6, .ref h7, .int (md 16), .int (md 17), .int (md 18), .int (md 19), .ref h8])), (h1, .inl (cB, 65536, .inl bf)), (h2, .inl (cI, 512, .inl mp)), (h3, .inl (cI, 512, .inl ml)), (h4, .inl (cJ, 520, .inr (.inl mn))), (h5, .inl (cI, 41, .inl mf)), (h6, .inl (cI, 8192, .inl sp)), (h7, .inl (cI, 8192, .inl sl)), (h8, .inl (cI, 11, .inl et))] := hD
          refine lv_aload_n hx hb d_Md_dots_77 rfl (lv_at hl 1 rfl) ?_
          refine va_get (D := D) (ci := 7) (C := R_Md) (T := F_Md) (N := 30) hx hb (kl_Md hK.2) (fun _ h => h) hown hK.1 hP 0 rfl rfl 0 (by decide) (hw kw_310) (fun _ h9 => h9) rfl d_Md_dots_78 ?_
          refine lv_if_le (tgt := 88) hx hb d_Md_dots_81 (by decide) (fun c => absurd c (by decide)) (fun _ => ?_)
          refine lv_iconst (v := 0) hx hb d_Md_dots_84 (by decide) ?_
          refine lv_goto (tgt := 101) hx hb d_Md_dots_85 (by decide) ?_
          have ef : M_Md_dots md sz bf mn mf sp sl p0 p1 p2 = (0, (upd md 0 1)) := by unfold M_Md_dots; (try dsimp only); rw [if_neg c_1]; (try rw [← e1]); rw [if_neg c_2]; rw [if_neg c_3]; rw [if_pos c_4]
          exact ct_iret hx hb hr rfl hlocks d_Md_dots_101 ⟨Nat.zero_le _, Nat.zero_le _⟩ hQ hAe hS (0, (upd md 0 1)) rfl ef.symm (hP.sub [0, 1, 2, 3, 4, 5, 6, 7, 8] rfl) (hD.sub [0, 1, 2, 3, 4, 5, 6, 7, 8] rfl rfl)
        · replace hG := gp_neg c_4 hG
          refine lv_iconst (v := 0) hx hb d_Md_dots_69 (by decide) ?_
          refine lv_goto (tgt := 74) hx hb d_Md_dots_70 (by decide) ?_
          refine va_put (D := D) (ci := 7) (v := .int 0) (ty := .int) (C := R_Md) (T := F_Md) (N := 30) hx hb (kl_Md hK.2) (fun _ h => h) t_Md t_Md_ok n_Md hown hK.1 hP hD hS 0 rfl rfl 0 (by decide) (hw kw_310) (fun _ h9 => h9) rfl (t_Md_ok 0 (by decide)) rfl rfl (Nat.le_of_ble_eq_true rfl) d_Md_dots_74 (fun H locs hP hD hS => ?_)
          have hP : va_P D classes [(h0, .inr (7, [.int 0, .ref h1, .int sz, .int (md 1), .int (md 2), .int (md 3), .int (md 4), .int (md 5), .int (md 6), .int (md 7), .int (md 8), .int (md 9), .int (md 10), .int (md 11), .int (md 12), .int fr, .int (md 13), .ref h2, .ref h3, .int (md 14), .int (md 15), .ref h4, .ref h5, .ref h6, .ref h7, .int (md 16), .int (md 17), .int (md 18), .int (md 19), .ref h8])), (h1, .inl (cB, 65536, .inl bf)), (h2, .inl (cI, 512, .inl mp)), (h3, .inl (cI, 512, .inl ml)), (h4, .inl (cJ, 520, .inr (.inl mn))), (h5, .inl (cI, 41, .inl mf)), (h6, .inl (cI, 8192, .inl sp)), (h7, .inl (cI, 8192, .inl sl)), (h8, .inl (cI, 11, .inl et))] H := hP
          have hD : va_D A [(h0, .inr (7, [.int 0, .ref h1, .int sz, .int (md 1), .int (md 2), .int (md 3), .int (md 4), .int (md 5), .int (md 6), .int (md 7), .int (md 8), .int (md 9), .int (md 10), .int (md 11), .int (md 12), .int fr, .int (md 13), .ref h2, .ref h3, .int (md 14), .int (md 15), .ref h4, .ref h5, .ref h6, .ref h7, .int (md 16), .int (md 17), .int (md 18), .int (md 19), .ref h8])), (h1, .inl (cB, 65536, .inl bf)), (h2, .inl (cI, 512, .inl mp)), (h3, .inl (cI, 512, .inl ml)), (h4, .inl (cJ, 520, .inr (.inl mn))), (h5, .inl (cI, 41, .inl mf)), (h6, .inl (cI, 8192, .inl sp)), (h7, .inl (cI, 8192, .inl sl)), (h8, .inl (cI, 11, .inl et))] := hD
          refine lv_aload_n hx hb d_Md_dots_77 rfl (lv_at hl 1 rfl) ?_
          refine va_get (D := D) (ci := 7) (C := R_Md) (T := F_Md) (N := 30) hx hb (kl_Md hK.2) (fun _ h => h) hown hK.1 hP 0 rfl rfl 0 (by decide) (hw kw_310) (fun _ h9 => h9) rfl d_Md_dots_78 ?_
          refine lv_if_le (tgt := 88) hx hb d_Md_dots_81 (by decide) (fun _ => ?_) (fun c => absurd (by decide) c)
          refine lv_aload_n hx hb d_Md_dots_88 rfl (lv_at hl 1 rfl) ?_
          refine lv_aload_n hx hb d_Md_dots_89 rfl (lv_at hl 1 rfl) ?_
          refine va_get (D := D) (ci := 7) (C := R_Md) (T := F_Md) (N := 30) hx hb (kl_Md hK.2) (fun _ h => h) hown hK.1 hP 0 rfl rfl 23 (by decide) (hw kw_398) (fun _ h9 => h9) rfl d_Md_dots_90 ?_
          refine lv_iload hx hb d_Md_dots_93 (lv_at hl 0 rfl) ?_
          obtain ⟨g_14, hG⟩ := hG
          refine va_iald hx hb hK.1 hP 6 1 rfl rfl (g_14) d_Md_dots_95 ?_
          refine lv_iload_n hx hb d_Md_dots_96 rfl (lv_at hl 4 rfl) ?_
          refine lv_iadd hx hb d_Md_dots_97 ?_
          have g_15 := hG
          refine ct_finP (ct_runV (n := 1) (C := R_Md) (b := h0) (As := [.int ((sp y1.toNatClampNeg) + p2)]) (rest := []) hH (c_Md_at h0 h1 h2 h3 h4 h5 h6 h7 h8 (upd md 0 0) sz fr bf mp ml mn mf sp sl et ((sp y1.toNatClampNeg) + p2) g_15 _) ⟨cal_Md_at, ⟨Nat.le_of_ble_eq_true rfl, Nat.le_of_ble_eq_true rfl⟩, (Nat.le_of_ble_eq_true rfl), (Nat.le_of_ble_eq_true rfl)⟩ kw_342 kw_343 kw_316 kw_344 kw_345 (va_recv hK.1 hP (ci := 7) (q0 := 0) rfl rfl) (hP.sub (ws' := [(h0, .inr (7, [.int 0, .ref h1, .int sz, .int (md 1), .int (md 2), .int (md 3), .int (md 4), .int (md 5), .int (md 6), .int (md 7), .int (md 8), .int (md 9), .int (md 10), .int (md 11), .int (md 12), .int fr, .int (md 13), .ref h2, .ref h3, .int (md 14), .int (md 15), .ref h4, .ref h5, .ref h6, .ref h7, .int (md 16), .int (md 17), .int (md 18), .int (md 19), .ref h8])), (h1, .inl (cB, 65536, .inl bf)), (h2, .inl (cI, 512, .inl mp)), (h3, .inl (cI, 512, .inl ml)), (h4, .inl (cJ, 520, .inr (.inl mn))), (h5, .inl (cI, 41, .inl mf)), (h6, .inl (cI, 8192, .inl sp)), (h7, .inl (cI, 8192, .inl sl)), (h8, .inl (cI, 11, .inl et))]) [0, 1, 2, 3, 4, 5, 6, 7, 8] rfl) (hD.sub (ws' := [(h0, .inr (7, [.int 0, .ref h1, .int sz, .int (md 1), .int (md 2), .int (md 3), .int (md 4), .int (md 5), .int (md 6), .int (md 7), .int (md 8), .int (md 9), .int (md 10), .int (md 11), .int (md 12), .int fr, .int (md 13), .ref h2, .ref h3, .int (md 14), .int (md 15), .ref h4, .ref h5, .ref h6, .ref h7, .int (md 16), .int (md 17), .int (md 18), .int (md 19), .ref h8])), (h1, .inl (cB, 65536, .inl bf)), (h2, .inl (cI, 512, .inl mp)), (h3, .inl (cI, 512, .inl ml)), (h4, .inl (cJ, 520, .inr (.inl mn))), (h5, .inl (cI, 41, .inl mf)), (h6, .inl (cI, 8192, .inl sp)), (h7, .inl (cI, 8192, .inl sl)), (h8, .inl (cI, 11, .inl et))]) [0, 1, 2, 3, 4, 5, 6, 7, 8] rfl rfl) rfl hl.1 (Nat.le_of_ble_eq_true rfl) d_Md_dots_98) hP hS (fun H hP hS => ?_)
          refine W.eq (g2 := F0 m 101 ls [.int (M_Md_at bf ((sp y1.toNatClampNeg) + p2))]) rfl ?_
          have ef : M_Md_dots md sz bf mn mf sp sl p0 p1 p2 = ((M_Md_at bf ((sp y1.toNatClampNeg) + p2)), (upd md 0 0)) := by unfold M_Md_dots; (try dsimp only); rw [if_neg c_1]; (try rw [← e1]); rw [if_neg c_2]; rw [if_neg c_3]; rw [if_neg c_4]
          exact ct_iret hx hb hr rfl hlocks d_Md_dots_101 ⟨Nat.zero_le _, Nat.zero_le _⟩ hQ hAe hS ((M_Md_at bf ((sp y1.toNatClampNeg) + p2)), (upd md 0 0)) rfl ef.symm (hP.sub [0, 1, 2, 3, 4, 5, 6, 7, 8] rfl) (hD.sub [0, 1, 2, 3, 4, 5, 6, 7, 8] rfl rfl)
