set_option maxHeartbeats 4000000 in
set_option maxRecDepth 100000 in
theorem c_Md_look {l : Launch} {D : va_G} {cB cI cJ : ClassId} (h0 h1 h2 h3 h4 h5 h6 h7 h8 : Nat) (md : Nat → Int32) (sz : Int32) (fr : Int32) (bf : Nat → Int32) (mp : Nat → Int32) (ml : Nat → Int32) (mn : Nat → Int64) (mf : Nat → Int32) (sp : Nat → Int32) (sl : Nat → Int32) (et : Nat → Int32) (p0 : Int32) : Ct classes BW l D (TY cB cI cJ) y_Md_look b_Md_look 2 (some .int) ({ frames := 0, cells := 0, slots := 0, locals := 0 } : Room) [.ref h0, .int p0] [(h0, .inr (7, [.int (md 0), .ref h1, .int sz, .int (md 1), .int (md 2), .int (md 3), .int (md 4), .int (md 5), .int (md 6), .int (md 7), .int (md 8), .int (md 9), .int (md 10), .int (md 11), .int (md 12), .int fr, .int (md 13), .ref h2, .ref h3, .int (md 14), .int (md 15), .ref h4, .ref h5, .ref h6, .ref h7, .int (md 16), .int (md 17), .int (md 18), .int (md 19), .ref h8])), (h1, .inl (cB, 65536, .inl bf)), (h2, .inl (cI, 512, .inl mp)), (h3, .inl (cI, 512, .inl ml)), (h4, .inl (cJ, 520, .inr (.inl mn))), (h5, .inl (cI, 41, .inl mf)), (h6, .inl (cI, 8192, .inl sp)), (h7, .inl (cI, 8192, .inl sl)), (h8, .inl (cI, 11, .inl et))] (fun u : Int32 × (Nat → Int32) => u = M_Md_look md sz p0) (fun u => some (.int u.1)) (fun u => [(h0, .inr (7, [.int (u.2 0), .ref h1, .int sz, .int (u.2 1), .int (u.2 2), .int (u.2 3), .int (u.2 4), .int (u.2 5), .int (u.2 6), .int (u.2 7), .int (u.2 8), .int (u.2 9), .int (u.2 10), .int (u.2 11), .int (u.2 12), .int fr, .int (u.2 13), .ref h2, .ref h3, .int (u.2 14), .int (u.2 15), .ref h4, .ref h5, .ref h6, .ref h7, .int (u.2 16), .int (u.2 17), .int (u.2 18), .int (u.2 19), .ref h8])), (h1, .inl (cB, 65536, .inl bf)), (h2, .inl (cI, 512, .inl mp)), (h3, .inl (cI, 512, .inl ml)), (h4, .inl (cJ, 520, .inr (.inl mn))), (h5, .inl (cI, 41, .inl mf)), (h6, .inl (cI, 8192, .inl sp)), (h7, .inl (cI, 8192, .inl sl)), (h8, .inl (cI, 11, .inl et))]) (0) (0) := by
  refine Ct.intro (by decide +kernel) (Nat.le_of_ble_eq_true rfl) ?_
  intro p e s m below meth c hx hb hr hml hlocks hnm hown hK A hAe hA hS hP hD ls hl Q hQ
  have hown : s.vm.findClass "PictureFileModel" = some m.cls := hown
  have hH : Hold classes BW D (TY cB cI cJ) p s m c b_Md_look 2 "PictureFileModel" := ⟨bw_ok, hx, hb, hml, hown, hK⟩
  have hw : ∀ {w : Cond}, w ∈ BW → w.before ([.ref h0, .int p0] : List Value).toArray s = true := fun h => Wd.at bw_ok hK.2 h
  have hl : lv_has ls 2 [(0, .ref h0), (1, .int p0)] := hl
  refine lv_aload_n hx hb d_Md_look_0 rfl (lv_at hl 0 rfl) ?_
  refine lv_iconst (v := 0) hx hb d_Md_look_1 (by decide) ?_
  refine va_put (D := D) (ci := 7) (v := .int 0) (ty := .int) (C := R_Md) (T := F_Md) (N := 30) hx hb (kl_Md hK.2) (fun _ h => h) t_Md t_Md_ok n_Md hown hK.1 hP hD hS 0 rfl rfl 0 (by decide) (hw kw_310) (fun _ h9 => h9) rfl (t_Md_ok 0 (by decide)) rfl rfl (Nat.le_of_ble_eq_true rfl) d_Md_look_2 (fun H locs hP hD hS => ?_)
  have hP : va_P D classes [(h0, .inr (7, [.int 0, .ref h1, .int sz, .int (md 1), .int (md 2), .int (md 3), .int (md 4), .int (md 5), .int (md 6), .int (md 7), .int (md 8), .int (md 9), .int (md 10), .int (md 11), .int (md 12), .int fr, .int (md 13), .ref h2, .ref h3, .int (md 14), .int (md 15), .ref h4, .ref h5, .ref h6, .ref h7, .int (md 16), .int (md 17), .int (md 18), .int (md 19), .ref h8])), (h1, .inl (cB, 65536, .inl bf)), (h2, .inl (cI, 512, .inl mp)), (h3, .inl (cI, 512, .inl ml)), (h4, .inl (cJ, 520, .inr (.inl mn))), (h5, .inl (cI, 41, .inl mf)), (h6, .inl (cI, 8192, .inl sp)), (h7, .inl (cI, 8192, .inl sl)), (h8, .inl (cI, 11, .inl et))] H := hP
  have hD : va_D A [(h0, .inr (7, [.int 0, .ref h1, .int sz, .int (md 1), .int (md 2), .int (md 3), .int (md 4), .int (md 5), .int (md 6), .int (md 7), .int (md 8), .int (md 9), .int (md 10), .int (md 11), .int (md 12), .int fr, .int (md 13), .ref h2, .ref h3, .int (md 14), .int (md 15), .ref h4, .ref h5, .ref h6, .ref h7, .int (md 16), .int (md 17), .int (md 18), .int (md 19), .ref h8])), (h1, .inl (cB, 65536, .inl bf)), (h2, .inl (cI, 512, .inl mp)), (h3, .inl (cI, 512, .inl ml)), (h4, .inl (cJ, 520, .inr (.inl mn))), (h5, .inl (cI, 41, .inl mf)), (h6, .inl (cI, 8192, .inl sp)), (h7, .inl (cI, 8192, .inl sl)), (h8, .inl (cI, 11, .inl et))] := hD
  refine lv_iload_n hx hb d_Md_look_5 rfl (lv_at hl 1 rfl) ?_
  refine lv_iconst (v := 4) hx hb d_Md_look_6 (by decide) ?_
  refine lv_icmp_ge (tgt := 75) hx hb d_Md_look_7 (by decide) (fun c_1 => ?_) (fun c_1 => ?_)
  · skip
    refine lv_iload_n hx hb d_Md_look_75 rfl (lv_at hl 1 rfl) ?_
    refine lv_iconst (v := 4) hx hb d_Md_look_76 (by decide) ?_
    refine lv_icmp_ne (tgt := 103) hx hb d_Md_look_77 (by decide) (fun c_2 => ?_) (fun c_2 => ?_)
    · skip
      refine lv_iload_n hx hb d_Md_look_103 rfl (lv_at hl 1 rfl) ?_
      refine lv_iconst (v := 5) hx hb d_Md_look_104 (by decide) ?_
      refine lv_icmp_ne (tgt := 126) hx hb d_Md_look_105 (by decide) (fun c_3 => ?_) (fun c_3 => ?_)
      · skip
        refine lv_iload_n hx hb d_Md_look_126 rfl (lv_at hl 1 rfl) ?_
        refine lv_bipush (v := 6) hx hb d_Md_look_127 (by decide) ?_
        refine lv_icmp_ne (tgt := 139) hx hb d_Md_look_129 (by decide) (fun c_4 => ?_) (fun c_4 => ?_)
        · skip
          refine lv_iload_n hx hb d_Md_look_139 rfl (lv_at hl 1 rfl) ?_
          refine lv_bipush (v := 7) hx hb d_Md_look_140 (by decide) ?_
          refine lv_icmp_ne (tgt := 152) hx hb d_Md_look_142 (by decide) (fun c_5 => ?_) (fun c_5 => ?_)
          · skip
            refine lv_iconst (v := (-1)) hx hb d_Md_look_152 (by decide) ?_
            have ef : M_Md_look md sz p0 = ((-1), (upd md 0 0)) := by unfold M_Md_look; (try dsimp only); rw [if_pos c_1]; rw [if_neg c_2]; rw [if_neg c_3]; rw [if_neg c_4]; rw [if_neg c_5]
            exact ct_iret hx hb hr rfl hlocks d_Md_look_153 ⟨Nat.zero_le _, Nat.zero_le _⟩ hQ hAe hS ((-1), (upd md 0 0)) rfl ef.symm (hP.sub [0, 1, 2, 3, 4, 5, 6, 7, 8] rfl) (hD.sub [0, 1, 2, 3, 4, 5, 6, 7, 8] rfl rfl)
          · skip
            refine lv_aload_n hx hb d_Md_look_145 rfl (lv_at hl 0 rfl) ?_
            refine va_get (D := D) (ci := 7) (C := R_Md) (T := F_Md) (N := 30) hx hb (kl_Md hK.2) (fun _ h => h) hown hK.1 hP 0 rfl rfl 19 (by decide) (hw kw_361) (fun _ h9 => h9) rfl d_Md_look_146 ?_
            refine lv_goto (tgt := 153) hx hb d_Md_look_149 (by decide) ?_
            have ef : M_Md_look md sz p0 = ((md 14), (upd md 0 0)) := by unfold M_Md_look; (try dsimp only); rw [if_pos c_1]; rw [if_neg c_2]; rw [if_neg c_3]; rw [if_neg c_4]; rw [if_pos c_5]
            exact ct_iret hx hb hr rfl hlocks d_Md_look_153 ⟨Nat.zero_le _, Nat.zero_le _⟩ hQ hAe hS ((md 14), (upd md 0 0)) rfl ef.symm (hP.sub [0, 1, 2, 3, 4, 5, 6, 7, 8] rfl) (hD.sub [0, 1, 2, 3, 4, 5, 6, 7, 8] rfl rfl)
        · skip
          refine lv_aload_n hx hb d_Md_look_132 rfl (lv_at hl 0 rfl) ?_
          refine va_get (D := D) (ci := 7) (C := R_Md) (T := F_Md) (N := 30) hx hb (kl_Md hK.2) (fun _ h => h) hown hK.1 hP 0 rfl rfl 20 (by decide) (hw kw_415) (fun _ h9 => h9) rfl d_Md_look_133 ?_
          refine lv_goto (tgt := 153) hx hb d_Md_look_136 (by decide) ?_
          have ef : M_Md_look md sz p0 = ((md 15), (upd md 0 0)) := by unfold M_Md_look; (try dsimp only); rw [if_pos c_1]; rw [if_neg c_2]; rw [if_neg c_3]; rw [if_pos c_4]
          exact ct_iret hx hb hr rfl hlocks d_Md_look_153 ⟨Nat.zero_le _, Nat.zero_le _⟩ hQ hAe hS ((md 15), (upd md 0 0)) rfl ef.symm (hP.sub [0, 1, 2, 3, 4, 5, 6, 7, 8] rfl) (hD.sub [0, 1, 2, 3, 4, 5, 6, 7, 8] rfl rfl)
      · skip
        refine lv_aload_n hx hb d_Md_look_108 rfl (lv_at hl 0 rfl) ?_
        refine va_get (D := D) (ci := 7) (C := R_Md) (T := F_Md) (N := 30) hx hb (kl_Md hK.2) (fun _ h => h) hown hK.1 hP 0 rfl rfl 4 (by decide) (hw kw_328) (fun _ h9 => h9) rfl d_Md_look_109 ?_
        refine lv_if_eq (tgt := 122) hx hb d_Md_look_112 (by decide) (fun c_6 => ?_) (fun c_6 => ?_)
        · skip
          refine lv_iconst (v := 0) hx hb d_Md_look_122 (by decide) ?_
          refine lv_goto (tgt := 153) hx hb d_Md_look_123 (by decide) ?_
          have ef : M_Md_look md sz p0 = (0, (upd md 0 0)) := by unfold M_Md_look; (try dsimp only); rw [if_pos c_1]; rw [if_neg c_2]; rw [if_pos c_3]; rw [if_pos c_6]
          exact ct_iret hx hb hr rfl hlocks d_Md_look_153 ⟨Nat.zero_le _, Nat.zero_le _⟩ hQ hAe hS (0, (upd md 0 0)) rfl ef.symm (hP.sub [0, 1, 2, 3, 4, 5, 6, 7, 8] rfl) (hD.sub [0, 1, 2, 3, 4, 5, 6, 7, 8] rfl rfl)
        · skip
          refine lv_aload_n hx hb d_Md_look_115 rfl (lv_at hl 0 rfl) ?_
          refine va_get (D := D) (ci := 7) (C := R_Md) (T := F_Md) (N := 30) hx hb (kl_Md hK.2) (fun _ h => h) hown hK.1 hP 0 rfl rfl 16 (by decide) (hw kw_338) (fun _ h9 => h9) rfl d_Md_look_116 ?_
          refine lv_goto (tgt := 153) hx hb d_Md_look_119 (by decide) ?_
          have ef : M_Md_look md sz p0 = ((md 13), (upd md 0 0)) := by unfold M_Md_look; (try dsimp only); rw [if_pos c_1]; rw [if_neg c_2]; rw [if_pos c_3]; rw [if_neg c_6]
          exact ct_iret hx hb hr rfl hlocks d_Md_look_153 ⟨Nat.zero_le _, Nat.zero_le _⟩ hQ hAe hS ((md 13), (upd md 0 0)) rfl ef.symm (hP.sub [0, 1, 2, 3, 4, 5, 6, 7, 8] rfl) (hD.sub [0, 1, 2, 3, 4, 5, 6, 7, 8] rfl rfl)
    · skip
      refine lv_aload_n hx hb d_Md_look_80 rfl (lv_at hl 0 rfl) ?_
      refine va_get (D := D) (ci := 7) (C := R_Md) (T := F_Md) (N := 30) hx hb (kl_Md hK.2) (fun _ h => h) hown hK.1 hP 0 rfl rfl 4 (by decide) (hw kw_328) (fun _ h9 => h9) rfl d_Md_look_81 ?_
      refine lv_if_eq (tgt := 99) hx hb d_Md_look_84 (by decide) (fun c_7 => ?_) (fun c_7 => ?_)
      · skip
        refine lv_iconst (v := 0) hx hb d_Md_look_99 (by decide) ?_
        refine lv_goto (tgt := 153) hx hb d_Md_look_100 (by decide) ?_
        have ef : M_Md_look md sz p0 = (0, (upd md 0 0)) := by unfold M_Md_look; (try dsimp only); rw [if_pos c_1]; rw [if_pos c_2]; rw [if_pos c_7]
        exact ct_iret hx hb hr rfl hlocks d_Md_look_153 ⟨Nat.zero_le _, Nat.zero_le _⟩ hQ hAe hS (0, (upd md 0 0)) rfl ef.symm (hP.sub [0, 1, 2, 3, 4, 5, 6, 7, 8] rfl) (hD.sub [0, 1, 2, 3, 4, 5, 6, 7, 8] rfl rfl)
      · skip
        refine lv_aload_n hx hb d_Md_look_87 rfl (lv_at hl 0 rfl) ?_
        refine va_get (D := D) (ci := 7) (C := R_Md) (T := F_Md) (N := 30) hx hb (kl_Md hK.2) (fun _ h => h) hown hK.1 hP 0 rfl rfl 13 (by decide) (hw kw_336) (fun _ h9 => h9) rfl d_Md_look_88 ?_
        refine lv_aload_n hx hb d_Md_look_91 rfl (lv_at hl 0 rfl) ?_
        refine va_get (D := D) (ci := 7) (C := R_Md) (T := F_Md) (N := 30) hx hb (kl_Md hK.2) (fun _ h => h) hown hK.1 hP 0 rfl rfl 14 (by decide) (hw kw_337) (fun _ h9 => h9) rfl d_Md_look_92 ?_
        refine lv_isub hx hb d_Md_look_95 ?_
        refine lv_goto (tgt := 153) hx hb d_Md_look_96 (by decide) ?_
        have ef : M_Md_look md sz p0 = (((md 11) - (md 12)), (upd md 0 0)) := by unfold M_Md_look; (try dsimp only); rw [if_pos c_1]; rw [if_pos c_2]; rw [if_neg c_7]
        exact ct_iret hx hb hr rfl hlocks d_Md_look_153 ⟨Nat.zero_le _, Nat.zero_le _⟩ hQ hAe hS (((md 11) - (md 12)), (upd md 0 0)) rfl ef.symm (hP.sub [0, 1, 2, 3, 4, 5, 6, 7, 8] rfl) (hD.sub [0, 1, 2, 3, 4, 5, 6, 7, 8] rfl rfl)
  · skip
    refine lv_iload_n hx hb d_Md_look_10 rfl (lv_at hl 1 rfl) ?_
    refine lv_if_ne (tgt := 21) hx hb d_Md_look_11 (by decide) (fun c_8 => ?_) (fun c_8 => ?_)
    · skip
      refine lv_iload_n hx hb d_Md_look_21 rfl (lv_at hl 1 rfl) ?_
      refine lv_iconst (v := 1) hx hb d_Md_look_22 (by decide) ?_
      refine lv_icmp_ne (tgt := 41) hx hb d_Md_look_23 (by decide) (fun c_9 => ?_) (fun c_9 => ?_)
      · skip
        refine lv_iload_n hx hb d_Md_look_41 rfl (lv_at hl 1 rfl) ?_
        refine lv_iconst (v := 2) hx hb d_Md_look_42 (by decide) ?_
        refine lv_icmp_ne (tgt := 61) hx hb d_Md_look_43 (by decide) (fun c_10 => ?_) (fun c_10 => ?_)
        · skip
          refine lv_iload_n hx hb d_Md_look_61 rfl (lv_at hl 1 rfl) ?_
          refine lv_iconst (v := 3) hx hb d_Md_look_62 (by decide) ?_
          refine lv_icmp_ne (tgt := 73) hx hb d_Md_look_63 (by decide) (fun c_11 => ?_) (fun c_11 => ?_)
          · skip
            refine lv_iconst (v := (-1)) hx hb d_Md_look_73 (by decide) ?_
            have ef : M_Md_look md sz p0 = ((-1), (upd md 0 0)) := by unfold M_Md_look; (try dsimp only); rw [if_neg c_1]; rw [if_neg c_8]; rw [if_neg c_9]; rw [if_neg c_10]; rw [if_neg c_11]
            exact ct_iret hx hb hr rfl hlocks d_Md_look_74 ⟨Nat.zero_le _, Nat.zero_le _⟩ hQ hAe hS ((-1), (upd md 0 0)) rfl ef.symm (hP.sub [0, 1, 2, 3, 4, 5, 6, 7, 8] rfl) (hD.sub [0, 1, 2, 3, 4, 5, 6, 7, 8] rfl rfl)
          · skip
            refine lv_aload_n hx hb d_Md_look_66 rfl (lv_at hl 0 rfl) ?_
            refine va_get (D := D) (ci := 7) (C := R_Md) (T := F_Md) (N := 30) hx hb (kl_Md hK.2) (fun _ h => h) hown hK.1 hP 0 rfl rfl 6 (by decide) (hw kw_329) (fun _ h9 => h9) rfl d_Md_look_67 ?_
            refine lv_goto (tgt := 74) hx hb d_Md_look_70 (by decide) ?_
            have ef : M_Md_look md sz p0 = ((md 4), (upd md 0 0)) := by unfold M_Md_look; (try dsimp only); rw [if_neg c_1]; rw [if_neg c_8]; rw [if_neg c_9]; rw [if_neg c_10]; rw [if_pos c_11]
            exact ct_iret hx hb hr rfl hlocks d_Md_look_74 ⟨Nat.zero_le _, Nat.zero_le _⟩ hQ hAe hS ((md 4), (upd md 0 0)) rfl ef.symm (hP.sub [0, 1, 2, 3, 4, 5, 6, 7, 8] rfl) (hD.sub [0, 1, 2, 3, 4, 5, 6, 7, 8] rfl rfl)
        · skip
          refine lv_aload_n hx hb d_Md_look_46 rfl (lv_at hl 0 rfl) ?_
          refine va_get (D := D) (ci := 7) (C := R_Md) (T := F_Md) (N := 30) hx hb (kl_Md hK.2) (fun _ h => h) hown hK.1 hP 0 rfl rfl 4 (by decide) (hw kw_328) (fun _ h9 => h9) rfl d_Md_look_47 ?_
          refine lv_if_eq (tgt := 57) hx hb d_Md_look_50 (by decide) (fun c_12 => ?_) (fun c_12 => ?_)
          · skip
            refine lv_iconst (v := 0) hx hb d_Md_look_57 (by decide) ?_
            refine lv_goto (tgt := 74) hx hb d_Md_look_58 (by decide) ?_
            have ef : M_Md_look md sz p0 = (0, (upd md 0 0)) := by unfold M_Md_look; (try dsimp only); rw [if_neg c_1]; rw [if_neg c_8]; rw [if_neg c_9]; rw [if_pos c_10]; rw [if_pos c_12]
            exact ct_iret hx hb hr rfl hlocks d_Md_look_74 ⟨Nat.zero_le _, Nat.zero_le _⟩ hQ hAe hS (0, (upd md 0 0)) rfl ef.symm (hP.sub [0, 1, 2, 3, 4, 5, 6, 7, 8] rfl) (hD.sub [0, 1, 2, 3, 4, 5, 6, 7, 8] rfl rfl)
          · skip
            refine lv_iconst (v := 1) hx hb d_Md_look_53 (by decide) ?_
            refine lv_goto (tgt := 74) hx hb d_Md_look_54 (by decide) ?_
            have ef : M_Md_look md sz p0 = (1, (upd md 0 0)) := by unfold M_Md_look; (try dsimp only); rw [if_neg c_1]; rw [if_neg c_8]; rw [if_neg c_9]; rw [if_pos c_10]; rw [if_neg c_12]
            exact ct_iret hx hb hr rfl hlocks d_Md_look_74 ⟨Nat.zero_le _, Nat.zero_le _⟩ hQ hAe hS (1, (upd md 0 0)) rfl ef.symm (hP.sub [0, 1, 2, 3, 4, 5, 6, 7, 8] rfl) (hD.sub [0, 1, 2, 3, 4, 5, 6, 7, 8] rfl rfl)
      · skip
        refine lv_aload_n hx hb d_Md_look_26 rfl (lv_at hl 0 rfl) ?_
        refine va_get (D := D) (ci := 7) (C := R_Md) (T := F_Md) (N := 30) hx hb (kl_Md hK.2) (fun _ h => h) hown hK.1 hP 0 rfl rfl 3 (by decide) (hw kw_327) (fun _ h9 => h9) rfl d_Md_look_27 ?_
        refine lv_if_eq (tgt := 37) hx hb d_Md_look_30 (by decide) (fun c_13 => ?_) (fun c_13 => ?_)
        · skip
          refine lv_iconst (v := 0) hx hb d_Md_look_37 (by decide) ?_
          refine lv_goto (tgt := 74) hx hb d_Md_look_38 (by decide) ?_
          have ef : M_Md_look md sz p0 = (0, (upd md 0 0)) := by unfold M_Md_look; (try dsimp only); rw [if_neg c_1]; rw [if_neg c_8]; rw [if_pos c_9]; rw [if_pos c_13]
          exact ct_iret hx hb hr rfl hlocks d_Md_look_74 ⟨Nat.zero_le _, Nat.zero_le _⟩ hQ hAe hS (0, (upd md 0 0)) rfl ef.symm (hP.sub [0, 1, 2, 3, 4, 5, 6, 7, 8] rfl) (hD.sub [0, 1, 2, 3, 4, 5, 6, 7, 8] rfl rfl)
        · skip
          refine lv_iconst (v := 1) hx hb d_Md_look_33 (by decide) ?_
          refine lv_goto (tgt := 74) hx hb d_Md_look_34 (by decide) ?_
          have ef : M_Md_look md sz p0 = (1, (upd md 0 0)) := by unfold M_Md_look; (try dsimp only); rw [if_neg c_1]; rw [if_neg c_8]; rw [if_pos c_9]; rw [if_neg c_13]
          exact ct_iret hx hb hr rfl hlocks d_Md_look_74 ⟨Nat.zero_le _, Nat.zero_le _⟩ hQ hAe hS (1, (upd md 0 0)) rfl ef.symm (hP.sub [0, 1, 2, 3, 4, 5, 6, 7, 8] rfl) (hD.sub [0, 1, 2, 3, 4, 5, 6, 7, 8] rfl rfl)
    · skip
      refine lv_aload_n hx hb d_Md_look_14 rfl (lv_at hl 0 rfl) ?_
      refine va_get (D := D) (ci := 7) (C := R_Md) (T := F_Md) (N := 30) hx hb (kl_Md hK.2) (fun _ h => h) hown hK.1 hP 0 rfl rfl 2 (by decide) (hw kw_312) (fun _ h9 => h9) rfl d_Md_look_15 ?_
      refine lv_goto (tgt := 74) hx hb d_Md_look_18 (by decide) ?_
      have ef : M_Md_look md sz p0 = (sz, (upd md 0 0)) := by unfold M_Md_look; (try dsimp only); rw [if_neg c_1]; rw [if_pos c_8]
      exact ct_iret hx hb hr rfl hlocks d_Md_look_74 ⟨Nat.zero_le _, Nat.zero_le _⟩ hQ hAe hS (sz, (upd md 0 0)) rfl ef.symm (hP.sub [0, 1, 2, 3, 4, 5, 6, 7, 8] rfl) (hD.sub [0, 1, 2, 3, 4, 5, 6, 7, 8] rfl rfl)
set_option maxHeartbeats 4000000 in
set_option maxRecDepth 100000 in
theorem c_Row_init {l : Launch} {D : va_G} {cB cI cJ : ClassId} (h0 : Nat) : Ct classes BW l D (TY cB cI cJ) y_Row_init b_Row_init 1 none ({ frames := 1, cells := 1, slots := 1024, locals := 12 } : Room) [.ref h0] [(h0, .inr (0, [.null, .int 0]))] (fun _ : Nat => True) (fun _ => none) (fun u => [(h0, .inr (0, [.ref u, .int 0])), (u, .inl (cB, 1024, .inl (fun _ => 0)))]) 1 1024 := by
  refine Ct.intro (by decide +kernel) (Nat.le_of_ble_eq_true rfl) ?_
  intro p e s m below meth c hx hb hr hml hlocks hnm hown hK A hAe hA hS hP hD ls hl Q hQ
  have hown : s.vm.findClass "PictureFile$Row" = some m.cls := hown
  have hH : Hold classes BW D (TY cB cI cJ) p s m c b_Row_init 1 "PictureFile$Row" := ⟨bw_ok, hx, hb, hml, hown, hK⟩
  have hw : ∀ {w : Cond}, w ∈ BW → w.before ([.ref h0] : List Value).toArray s = true := fun h => Wd.at bw_ok hK.2 h
  have hl : lv_has ls 1 [(0, .ref h0)] := hl
  have hin : meth.name = "<init>" := hnm
  refine lv_aload_n hx hb d_Row_init_0 rfl (lv_at hl 0 rfl) ?_
  refine W.objInit hx hb hown (hw kw_436) (hw kw_437) (hw kw_438) rfl (by rw [hml]; exact hl.1) rfl d_Row_init_1 (Nat.le_of_ble_eq_true rfl) (Nat.le_of_ble_eq_true rfl) ?_
  refine W.eq (g2 := F0 m 4 ls []) rfl ?_
  refine lv_aload_n hx hb d_Row_init_4 rfl (lv_at hl 0 rfl) ?_
  refine lv_sipush (v := 1024) hx hb d_Row_init_5 (by decide) ?_
  refine va_newa (atype := .byte) (ty := .byte) (N' := 1024) (a0 := (1024, (.inl (fun _ => 0)))) hx hb (hw kw_439) rfl hK.1 hP hD hS hA (fun _ => rfl) (by decide) (by decide) (by decide) (Nat.le_of_ble_eq_true rfl) (Nat.le_of_ble_eq_true rfl) d_Row_init_8 (fun q1 cA H hK2 hP hD hS => ?_)
  have hcA : cA = cB := ty_same hK2 0 rfl
  have hP : va_P D classes [(h0, .inr (0, [.null, .int 0])), (q1, .inl (cB, 1024, .inl (fun _ => 0)))] H := by rw [hcA] at hP; exact hP
  have hD : va_D A [(h0, .inr (0, [.null, .int 0])), (q1, .inl (cB, 1024, .inl (fun _ => 0)))] := by rw [hcA] at hD; exact hD
  clear hcA hK2
  refine W.widen (k := 1) (n := 1024) (by decide) (by decide) ?_
  refine va_put (D := D) (ci := 0) (v := .ref q1) (ty := .array .byte) (C := R_Row) (T := F_Row) (N := 2) hx hb (kl_Row hK.2) (fun _ h => h) t_Row t_Row_ok n_Row hown hK.1 hP hD hS 0 rfl rfl 0 (by decide) (hw kw_12) (fun _ h9 => h9) rfl (t_Row_ok 0 (by decide)) rfl rfl (Nat.le_of_ble_eq_true rfl) d_Row_init_10 (fun H locs hP hD hS => ?_)
  have hP : va_P D classes [(h0, .inr (0, [.ref q1, .int 0])), (q1, .inl (cB, 1024, .inl (fun _ => 0)))] H := hP
  have hD : va_D A [(h0, .inr (0, [.ref q1, .int 0])), (q1, .inl (cB, 1024, .inl (fun _ => 0)))] := hD
  exact ct_vret hx hb hr hlocks d_Row_init_13 ⟨Nat.le_refl _, Nat.le_refl _⟩ hQ hAe hS q1 rfl trivial (hP.sub [0, 1] rfl) (hD.sub [0, 1] rfl rfl)
set_option maxHeartbeats 4000000 in
set_option maxRecDepth 100000 in
theorem c_St_init {l : Launch} {D : va_G} {cB cI cJ : ClassId} (h0 : Nat) (p0 : Int32) : Ct classes BW l D (TY cB cI cJ) y_St_init b_St_init 2 none ({ frames := 1, cells := 1, slots := 32, locals := 12 } : Room) [.ref h0, .int p0] [(h0, .inr (1, [.int 0, .null, .int 0]))] (fun _ : Nat => True) (fun _ => none) (fun u => [(h0, .inr (1, [.int p0, .ref u, .int 0])), (u, .inl (cI, 32, .inl (fun _ => 0)))]) 1 32 := by
  refine Ct.intro (by decide +kernel) (Nat.le_of_ble_eq_true rfl) ?_
  intro p e s m below meth c hx hb hr hml hlocks hnm hown hK A hAe hA hS hP hD ls hl Q hQ
  have hown : s.vm.findClass "PictureFile$Strips" = some m.cls := hown
  have hH : Hold classes BW D (TY cB cI cJ) p s m c b_St_init 2 "PictureFile$Strips" := ⟨bw_ok, hx, hb, hml, hown, hK⟩
  have hw : ∀ {w : Cond}, w ∈ BW → w.before ([.ref h0, .int p0] : List Value).toArray s = true := fun h => Wd.at bw_ok hK.2 h
  have hl : lv_has ls 2 [(0, .ref h0), (1, .int p0)] := hl
  have hin : meth.name = "<init>" := hnm
  refine lv_aload_n hx hb d_St_init_0 rfl (lv_at hl 0 rfl) ?_
  refine W.objInit hx hb hown (hw kw_440) (hw kw_437) (hw kw_438) rfl (by rw [hml]; exact hl.1) rfl d_St_init_1 (Nat.le_of_ble_eq_true rfl) (Nat.le_of_ble_eq_true rfl) ?_
  refine W.eq (g2 := F0 m 4 ls []) rfl ?_
  refine lv_aload_n hx hb d_St_init_4 rfl (lv_at hl 0 rfl) ?_
  refine lv_bipush (v := 32) hx hb d_St_init_5 (by decide) ?_
  refine va_newa (atype := .int) (ty := .int) (N' := 32) (a0 := (32, (.inl (fun _ => 0)))) hx hb (hw kw_441) rfl hK.1 hP hD hS hA (fun _ => rfl) (by decide) (by decide) (by decide) (Nat.le_of_ble_eq_true rfl) (Nat.le_of_ble_eq_true rfl) d_St_init_7 (fun q1 cA H hK2 hP hD hS => ?_)
  have hcA : cA = cI := ty_same hK2 1 rfl
  have hP : va_P D classes [(h0, .inr (1, [.int 0, .null, .int 0])), (q1, .inl (cI, 32, .inl (fun _ => 0)))] H := by rw [hcA] at hP; exact hP
  have hD : va_D A [(h0, .inr (1, [.int 0, .null, .int 0])), (q1, .inl (cI, 32, .inl (fun _ => 0)))] := by rw [hcA] at hD; exact hD
  clear hcA hK2
  refine W.widen (k := 1) (n := 32) (by decide) (by decide) ?_
  refine va_put (D := D) (ci := 1) (v := .ref q1) (ty := .array .int) (C := R_St) (T := F_St) (N := 3) hx hb (kl_St hK.2) (fun _ h => h) t_St t_St_ok n_St hown hK.1 hP hD hS 0 rfl rfl 1 (by decide) (hw kw_38) (fun _ h9 => h9) rfl (t_St_ok 1 (by decide)) rfl rfl (Nat.le_of_ble_eq_true rfl) d_St_init_9 (fun H locs hP hD hS => ?_)
  have hP : va_P D classes [(h0, .inr (1, [.int 0, .ref q1, .int 0])), (q1, .inl (cI, 32, .inl (fun _ => 0)))] H := hP
  have hD : va_D A [(h0, .inr (1, [.int 0, .ref q1, .int 0])), (q1, .inl (cI, 32, .inl (fun _ => 0)))] := hD
  refine lv_aload_n hx hb d_St_init_12 rfl (lv_at hl 0 rfl) ?_
  refine lv_iload_n hx hb d_St_init_13 rfl (lv_at hl 1 rfl) ?_
  refine va_putF (D := D) (ci := 1) (v := .int p0) (ty := .int) (C := R_St) (T := F_St) (N := 3) hx hb (kl_St hK.2) (fun _ h => h) t_St t_St_ok n_St hown hK.1 hP hD hS 0 rfl rfl 0 (by decide) (hw kw_40) (fun _ h9 => h9) rfl hin rfl (t_St_ok 0 (by decide)) rfl rfl (Nat.le_of_ble_eq_true rfl) d_St_init_14 (fun H locs hP hD hS => ?_)
  have hP : va_P D classes [(h0, .inr (1, [.int p0, .ref q1, .int 0])), (q1, .inl (cI, 32, .inl (fun _ => 0)))] H := hP
  have hD : va_D A [(h0, .inr (1, [.int p0, .ref q1, .int 0])), (q1, .inl (cI, 32, .inl (fun _ => 0)))] := hD
  exact ct_vret hx hb hr hlocks d_St_init_17 ⟨Nat.le_refl _, Nat.le_refl _⟩ hQ hAe hS q1 rfl trivial (hP.sub [0, 1] rfl) (hD.sub [0, 1] rfl rfl)
set_option maxHeartbeats 4000000 in
set_option maxRecDepth 100000 in
theorem c_Mk_init {l : Launch} {D : va_G} {cB cI cJ : ClassId} (h0 : Nat) (p0 : Nat) : Ct classes BW l D (TY cB cI cJ) y_Mk_init b_Mk_init 2 none ({ frames := 2, cells := 2, slots := 35, locals := 33 } : Room) [.ref h0, .ref p0] [(h0, .inr (2, [.null, .null, .int 0, .int 0, .int 0, .int 0, .int 0, .int 0, .int 0, .int 0, .int 0, .int 0, .int 0, .int 0]))] (fun _ : Nat × Nat => True) (fun _ => none) (fun u => [(h0, .inr (2, [.ref p0, .ref u.1, .int 0, .int 0, .int 0, .int 0, .int 0, .int 0, .int 0, .int 0, .int 0, .int 0, .int 0, .int 0])), (u.1, .inr (1, [.int 512, .ref u.2, .int 0])), (u.2, .inl (cI, 32, .inl (fun _ => 0)))]) 2 35 := by
  refine Ct.intro (by decide +kernel) (Nat.le_of_ble_eq_true rfl) ?_
  intro p e s m below meth c hx hb hr hml hlocks hnm hown hK A hAe hA hS hP hD ls hl Q hQ
  have hown : s.vm.findClass "PictureFile$Maker" = some m.cls := hown
  have hH : Hold classes BW D (TY cB cI cJ) p s m c b_Mk_init 2 "PictureFile$Maker" := ⟨bw_ok, hx, hb, hml, hown, hK⟩
  have hw : ∀ {w : Cond}, w ∈ BW → w.before ([.ref h0, .ref p0] : List Value).toArray s = true := fun h => Wd.at bw_ok hK.2 h
  have hl : lv_has ls 2 [(0, .ref h0), (1, .ref p0)] := hl
  have hin : meth.name = "<init>" := hnm
  refine lv_aload_n hx hb d_Mk_init_0 rfl (lv_at hl 0 rfl) ?_
  refine W.objInit hx hb hown (hw kw_442) (hw kw_437) (hw kw_438) rfl (by rw [hml]; exact hl.1) rfl d_Mk_init_1 (Nat.le_of_ble_eq_true rfl) (Nat.le_of_ble_eq_true rfl) ?_
  refine W.eq (g2 := F0 m 4 ls []) rfl ?_
  refine lv_aload_n hx hb d_Mk_init_4 rfl (lv_at hl 0 rfl) ?_
  refine va_new (D := D) (ci := 1) (fs := [.int 0, .null, .int 0]) (C := R_St) (T := F_St) (N := 3) hx hb (kl_St hK.2) (fun _ h => h) t_St t_St_ok hown (hw kw_443) (hw kw_444) (hw kw_86) hK.1 hP hD hS hA rfl (fun j hj => by rcases (show j = 0 ∨ j = 1 ∨ j = 2 by omega) with rfl | rfl | rfl <;> rfl) (Nat.le_of_ble_eq_true rfl) (Nat.le_of_ble_eq_true rfl) d_Mk_init_5 (fun q1 H hP hD hS => ?_)
  have hP : va_P D classes [(h0, .inr (2, [.null, .null, .int 0, .int 0, .int 0, .int 0, .int 0, .int 0, .int 0, .int 0, .int 0, .int 0, .int 0, .int 0])), (q1, .inr (1, [.int 0, .null, .int 0]))] H := hP
  have hD : va_D A [(h0, .inr (2, [.null, .null, .int 0, .int 0, .int 0, .int 0, .int 0, .int 0, .int 0, .int 0, .int 0, .int 0, .int 0, .int 0])), (q1, .inr (1, [.int 0, .null, .int 0]))] := hD
  refine W.widen (k := 1) (n := 3) (by decide) (by decide) ?_
  refine lv_dup hx hb d_Mk_init_8 rfl ?_
  refine lv_sipush (v := 512) hx hb d_Mk_init_9 (by decide) ?_
  refine ct_fin (wr := [(h0, .inr (2, [.null, .null, .int 0, .int 0, .int 0, .int 0, .int 0, .int 0, .int 0, .int 0, .int 0, .int 0, .int 0, .int 0]))]) (ct_runIN (host := "PictureFile") (n := 1) (b := q1) (As := [.int 512]) (rest := [.ref q1, .ref h0]) hH (c_St_init q1 512 _) ⟨cal_St_init, ⟨Nat.le_of_ble_eq_true rfl, Nat.le_of_ble_eq_true rfl⟩, (Nat.le_of_ble_eq_true rfl), (Nat.le_of_ble_eq_true rfl)⟩ rfl kw_445 kw_446 kw_86 kw_447 (hP.sub (ws' := [(q1, .inr (1, [.int 0, .null, .int 0]))]) [1] rfl) (hD.sub (ws' := [(q1, .inr (1, [.int 0, .null, .int 0]))]) [1] rfl rfl) rfl hl.1 (Nat.le_of_ble_eq_true rfl) d_Mk_init_12) hP hD hS hA [1] [0] rfl rfl rfl (by decide) (fun u H locs hp hP hD hS => ?_)
  obtain ⟨q2_0, rfl⟩ : ∃ z, z = u := ⟨_, rfl⟩
  have hP : va_P D classes [(h0, .inr (2, [.null, .null, .int 0, .int 0, .int 0, .int 0, .int 0, .int 0, .int 0, .int 0, .int 0, .int 0, .int 0, .int 0])), (q1, .inr (1, [.int 512, .ref q2_0, .int 0])), (q2_0, .inl (cI, 32, .inl (fun _ => 0)))] H := hP
  have hD : va_D A [(h0, .inr (2, [.null, .null, .int 0, .int 0, .int 0, .int 0, .int 0, .int 0, .int 0, .int 0, .int 0, .int 0, .int 0, .int 0])), (q1, .inr (1, [.int 512, .ref q2_0, .int 0])), (q2_0, .inl (cI, 32, .inl (fun _ => 0)))] := hD
  refine W.widen (k := 2) (n := 35) (by decide) (by decide) ?_
  refine W.eq (g2 := F0 m 15 ls [.ref q1, .ref h0]) rfl ?_
  refine va_putF (D := D) (ci := 2) (v := .ref q1) (ty := .object "PictureFile$Strips") (C := R_Mk) (T := F_Mk) (N := 14) hx hb (kl_Mk hK.2) (fun _ h => h) t_Mk t_Mk_ok n_Mk hown hK.1 hP hD hS 0 rfl rfl 1 (by decide) (hw kw_54) (fun _ h9 => h9) rfl hin rfl (t_Mk_ok 1 (by decide)) rfl rfl (Nat.le_of_ble_eq_true rfl) d_Mk_init_15 (fun H locs hP hD hS => ?_)
  have hP : va_P D classes [(h0, .inr (2, [.null, .ref q1, .int 0, .int 0, .int 0, .int 0, .int 0, .int 0, .int 0, .int 0, .int 0, .int 0, .int 0, .int 0])), (q1, .inr (1, [.int 512, .ref q2_0, .int 0])), (q2_0, .inl (cI, 32, .inl (fun _ => 0)))] H := hP
  have hD : va_D A [(h0, .inr (2, [.null, .ref q1, .int 0, .int 0, .int 0, .int 0, .int 0, .int 0, .int 0, .int 0, .int 0, .int 0, .int 0, .int 0])), (q1, .inr (1, [.int 512, .ref q2_0, .int 0])), (q2_0, .inl (cI, 32, .inl (fun _ => 0)))] := hD
  refine lv_aload_n hx hb d_Mk_init_18 rfl (lv_at hl 0 rfl) ?_
  refine lv_aload_n hx hb d_Mk_init_19 rfl (lv_at hl 1 rfl) ?_
  refine va_putF (D := D) (ci := 2) (v := .ref p0) (ty := .object "PictureFile$Row") (C := R_Mk) (T := F_Mk) (N := 14) hx hb (kl_Mk hK.2) (fun _ h => h) t_Mk t_Mk_ok n_Mk hown hK.1 hP hD hS 0 rfl rfl 0 (by decide) (hw kw_45) (fun _ h9 => h9) rfl hin rfl (t_Mk_ok 0 (by decide)) rfl rfl (Nat.le_of_ble_eq_true rfl) d_Mk_init_20 (fun H locs hP hD hS => ?_)
  have hP : va_P D classes [(h0, .inr (2, [.ref p0, .ref q1, .int 0, .int 0, .int 0, .int 0, .int 0, .int 0, .int 0, .int 0, .int 0, .int 0, .int 0, .int 0])), (q1, .inr (1, [.int 512, .ref q2_0, .int 0])), (q2_0, .inl (cI, 32, .inl (fun _ => 0)))] H := hP
  have hD : va_D A [(h0, .inr (2, [.ref p0, .ref q1, .int 0, .int 0, .int 0, .int 0, .int 0, .int 0, .int 0, .int 0, .int 0, .int 0, .int 0, .int 0])), (q1, .inr (1, [.int 512, .ref q2_0, .int 0])), (q2_0, .inl (cI, 32, .inl (fun _ => 0)))] := hD
  exact ct_vret hx hb hr hlocks d_Mk_init_23 ⟨Nat.le_refl _, Nat.le_refl _⟩ hQ hAe hS (q1, q2_0) rfl trivial (hP.sub [0, 1, 2] rfl) (hD.sub [0, 1, 2] rfl rfl)
set_option maxHeartbeats 4000000 in
set_option maxRecDepth 100000 in
theorem c_Pn_init {l : Launch} {D : va_G} {cB cI cJ : ClassId} (h0 : Nat) : Ct classes BW l D (TY cB cI cJ) y_Pn_init b_Pn_init 1 none ({ frames := 1, cells := 1, slots := 520, locals := 12 } : Room) [.ref h0] [(h0, .inr (3, [.null]))] (fun _ : Nat => True) (fun _ => none) (fun u => [(h0, .inr (3, [.ref u])), (u, .inl (cJ, 520, .inr (.inl (fun _ => 0))))]) 1 520 := by
  refine Ct.intro (by decide +kernel) (Nat.le_of_ble_eq_true rfl) ?_
  intro p e s m below meth c hx hb hr hml hlocks hnm hown hK A hAe hA hS hP hD ls hl Q hQ
  have hown : s.vm.findClass "PictureFile$PageNumbers" = some m.cls := hown
  have hH : Hold classes BW D (TY cB cI cJ) p s m c b_Pn_init 1 "PictureFile$PageNumbers" := ⟨bw_ok, hx, hb, hml, hown, hK⟩
  have hw : ∀ {w : Cond}, w ∈ BW → w.before ([.ref h0] : List Value).toArray s = true := fun h => Wd.at bw_ok hK.2 h
  have hl : lv_has ls 1 [(0, .ref h0)] := hl
  have hin : meth.name = "<init>" := hnm
  refine lv_aload_n hx hb d_Pn_init_0 rfl (lv_at hl 0 rfl) ?_
  refine W.objInit hx hb hown (hw kw_448) (hw kw_437) (hw kw_438) rfl (by rw [hml]; exact hl.1) rfl d_Pn_init_1 (Nat.le_of_ble_eq_true rfl) (Nat.le_of_ble_eq_true rfl) ?_
  refine W.eq (g2 := F0 m 4 ls []) rfl ?_
  refine lv_aload_n hx hb d_Pn_init_4 rfl (lv_at hl 0 rfl) ?_
  refine lv_sipush (v := 520) hx hb d_Pn_init_5 (by decide) ?_
  refine va_newa (atype := .long) (ty := .long) (N' := 520) (a0 := (520, (.inr (.inl (fun _ => 0))))) hx hb (hw kw_449) rfl hK.1 hP hD hS hA (fun _ => rfl) (by decide) (by decide) (by decide) (Nat.le_of_ble_eq_true rfl) (Nat.le_of_ble_eq_true rfl) d_Pn_init_8 (fun q1 cA H hK2 hP hD hS => ?_)
  have hcA : cA = cJ := ty_same hK2 2 rfl
  have hP : va_P D classes [(h0, .inr (3, [.null])), (q1, .inl (cJ, 520, .inr (.inl (fun _ => 0))))] H := by rw [hcA] at hP; exact hP
  have hD : va_D A [(h0, .inr (3, [.null])), (q1, .inl (cJ, 520, .inr (.inl (fun _ => 0))))] := by rw [hcA] at hD; exact hD
  clear hcA hK2
  refine W.widen (k := 1) (n := 520) (by decide) (by decide) ?_
  refine va_putF (D := D) (ci := 3) (v := .ref q1) (ty := .array .long) (C := R_Pn) (T := F_Pn) (N := 1) hx hb (kl_Pn hK.2) (fun _ h => h) t_Pn t_Pn_ok n_Pn hown hK.1 hP hD hS 0 rfl rfl 0 (by decide) (hw kw_117) (fun _ h9 => h9) rfl hin rfl (t_Pn_ok 0 (by decide)) rfl rfl (Nat.le_of_ble_eq_true rfl) d_Pn_init_10 (fun H locs hP hD hS => ?_)
  have hP : va_P D classes [(h0, .inr (3, [.ref q1])), (q1, .inl (cJ, 520, .inr (.inl (fun _ => 0))))] H := hP
  have hD : va_D A [(h0, .inr (3, [.ref q1])), (q1, .inl (cJ, 520, .inr (.inl (fun _ => 0))))] := hD
  exact ct_vret hx hb hr hlocks d_Pn_init_13 ⟨Nat.le_refl _, Nat.le_refl _⟩ hQ hAe hS q1 rfl trivial (hP.sub [0, 1] rfl) (hD.sub [0, 1] rfl rfl)
set_option maxHeartbeats 4000000 in
set_option maxRecDepth 100000 in
theorem c_En_init {l : Launch} {D : va_G} {cB cI cJ : ClassId} (h0 : Nat) (p0 : Nat) : Ct classes BW l D (TY cB cI cJ) y_En_init b_En_init 2 none ({ frames := 1, cells := 3, slots := 123, locals := 12 } : Room) [.ref h0, .ref p0] [(h0, .inr (4, [.null, .null, .null, .null]))] (fun _ : Nat × Nat × Nat => True) (fun _ => none) (fun u => [(h0, .inr (4, [.ref p0, .ref u.1, .ref u.2.1, .ref u.2.2])), (u.1, .inl (cI, 41, .inl (fun _ => 0))), (u.2.1, .inl (cI, 41, .inl (fun _ => 0))), (u.2.2, .inl (cI, 41, .inl (fun _ => 0)))]) 3 123 := by
  refine Ct.intro (by decide +kernel) (Nat.le_of_ble_eq_true rfl) ?_
  intro p e s m below meth c hx hb hr hml hlocks hnm hown hK A hAe hA hS hP hD ls hl Q hQ
  have hown : s.vm.findClass "PictureFile$Entries" = some m.cls := hown
  have hH : Hold classes BW D (TY cB cI cJ) p s m c b_En_init 2 "PictureFile$Entries" := ⟨bw_ok, hx, hb, hml, hown, hK⟩
  have hw : ∀ {w : Cond}, w ∈ BW → w.before ([.ref h0, .ref p0] : List Value).toArray s = true := fun h => Wd.at bw_ok hK.2 h
  have hl : lv_has ls 2 [(0, .ref h0), (1, .ref p0)] := hl
  have hin : meth.name = "<init>" := hnm
  refine lv_aload_n hx hb d_En_init_0 rfl (lv_at hl 0 rfl) ?_
  refine W.objInit hx hb hown (hw kw_450) (hw kw_437) (hw kw_438) rfl (by rw [hml]; exact hl.1) rfl d_En_init_1 (Nat.le_of_ble_eq_true rfl) (Nat.le_of_ble_eq_true rfl) ?_
  refine W.eq (g2 := F0 m 4 ls []) rfl ?_
  refine lv_aload_n hx hb d_En_init_4 rfl (lv_at hl 0 rfl) ?_
  refine lv_bipush (v := 41) hx hb d_En_init_5 (by decide) ?_
  refine va_newa (atype := .int) (ty := .int) (N' := 41) (a0 := (41, (.inl (fun _ => 0)))) hx hb (hw kw_441) rfl hK.1 hP hD hS hA (fun _ => rfl) (by decide) (by decide) (by decide) (Nat.le_of_ble_eq_true rfl) (Nat.le_of_ble_eq_true rfl) d_En_init_7 (fun q1 cA H hK2 hP hD hS => ?_)
  have hcA : cA = cI := ty_same hK2 1 rfl
  have hP : va_P D classes [(h0, .inr (4, [.null, .null, .null, .null])), (q1, .inl (cI, 41, .inl (fun _ => 0)))] H := by rw [hcA] at hP; exact hP
  have hD : va_D A [(h0, .inr (4, [.null, .null, .null, .null])), (q1, .inl (cI, 41, .inl (fun _ => 0)))] := by rw [hcA] at hD; exact hD
  clear hcA hK2
  refine W.widen (k := 1) (n := 41) (by decide) (by decide) ?_
  refine va_putF (D := D) (ci := 4) (v := .ref q1) (ty := .array .int) (C := R_En) (T := F_En) (N := 4) hx hb (kl_En hK.2) (fun _ h => h) t_En t_En_ok n_En hown hK.1 hP hD hS 0 rfl rfl 1 (by decide) (hw kw_138) (fun _ h9 => h9) rfl hin rfl (t_En_ok 1 (by decide)) rfl rfl (Nat.le_of_ble_eq_true rfl) d_En_init_9 (fun H locs hP hD hS => ?_)
  have hP : va_P D classes [(h0, .inr (4, [.null, .ref q1, .null, .null])), (q1, .inl (cI, 41, .inl (fun _ => 0)))] H := hP
  have hD : va_D A [(h0, .inr (4, [.null, .ref q1, .null, .null])), (q1, .inl (cI, 41, .inl (fun _ => 0)))] := hD
  refine lv_aload_n hx hb d_En_init_12 rfl (lv_at hl 0 rfl) ?_
  refine lv_bipush (v := 41) hx hb d_En_init_13 (by decide) ?_
  refine va_newa (atype := .int) (ty := .int) (N' := 41) (a0 := (41, (.inl (fun _ => 0)))) hx hb (hw kw_441) rfl hK.1 hP hD hS hA (fun _ => rfl) (by decide) (by decide) (by decide) (Nat.le_of_ble_eq_true rfl) (Nat.le_of_ble_eq_true rfl) d_En_init_15 (fun q2 cA H hK2 hP hD hS => ?_)
  have hcA : cA = cI := ty_same hK2 1 rfl
  have hP : va_P D classes [(h0, .inr (4, [.null, .ref q1, .null, .null])), (q1, .inl (cI, 41, .inl (fun _ => 0))), (q2, .inl (cI, 41, .inl (fun _ => 0)))] H := by rw [hcA] at hP; exact hP
  have hD : va_D A [(h0, .inr (4, [.null, .ref q1, .null, .null])), (q1, .inl (cI, 41, .inl (fun _ => 0))), (q2, .inl (cI, 41, .inl (fun _ => 0)))] := by rw [hcA] at hD; exact hD
  clear hcA hK2
  refine W.widen (k := 2) (n := 82) (by decide) (by decide) ?_
  refine va_putF (D := D) (ci := 4) (v := .ref q2) (ty := .array .int) (C := R_En) (T := F_En) (N := 4) hx hb (kl_En hK.2) (fun _ h => h) t_En t_En_ok n_En hown hK.1 hP hD hS 0 rfl rfl 2 (by decide) (hw kw_128) (fun _ h9 => h9) rfl hin rfl (t_En_ok 2 (by decide)) rfl rfl (Nat.le_of_ble_eq_true rfl) d_En_init_17 (fun H locs hP hD hS => ?_)
  have hP : va_P D classes [(h0, .inr (4, [.null, .ref q1, .ref q2, .null])), (q1, .inl (cI, 41, .inl (fun _ => 0))), (q2, .inl (cI, 41, .inl (fun _ => 0)))] H := hP
  have hD : va_D A [(h0, .inr (4, [.null, .ref q1, .ref q2, .null])), (q1, .inl (cI, 41, .inl (fun _ => 0))), (q2, .inl (cI, 41, .inl (fun _ => 0)))] := hD
  refine lv_aload_n hx hb d_En_init_20 rfl (lv_at hl 0 rfl) ?_
  refine lv_bipush (v := 41) hx hb d_En_init_21 (by decide) ?_
  refine va_newa (atype := .int) (ty := .int) (N' := 41) (a0 := (41, (.inl (fun _ => 0)))) hx hb (hw kw_441) rfl hK.1 hP hD hS hA (fun _ => rfl) (by decide) (by decide) (by decide) (Nat.le_of_ble_eq_true rfl) (Nat.le_of_ble_eq_true rfl) d_En_init_23 (fun q3 cA H hK2 hP hD hS => ?_)
  have hcA : cA = cI := ty_same hK2 1 rfl
  have hP : va_P D classes [(h0, .inr (4, [.null, .ref q1, .ref q2, .null])), (q1, .inl (cI, 41, .inl (fun _ => 0))), (q2, .inl (cI, 41, .inl (fun _ => 0))), (q3, .inl (cI, 41, .inl (fun _ => 0)))] H := by rw [hcA] at hP; exact hP
  have hD : va_D A [(h0, .inr (4, [.null, .ref q1, .ref q2, .null])), (q1, .inl (cI, 41, .inl (fun _ => 0))), (q2, .inl (cI, 41, .inl (fun _ => 0))), (q3, .inl (cI, 41, .inl (fun _ => 0)))] := by rw [hcA] at hD; exact hD
  clear hcA hK2
  refine W.widen (k := 3) (n := 123) (by decide) (by decide) ?_
  refine va_putF (D := D) (ci := 4) (v := .ref q3) (ty := .array .int) (C := R_En) (T := F_En) (N := 4) hx hb (kl_En hK.2) (fun _ h => h) t_En t_En_ok n_En hown hK.1 hP hD hS 0 rfl rfl 3 (by decide) (hw kw_139) (fun _ h9 => h9) rfl hin rfl (t_En_ok 3 (by decide)) rfl rfl (Nat.le_of_ble_eq_true rfl) d_En_init_25 (fun H locs hP hD hS => ?_)
  have hP : va_P D classes [(h0, .inr (4, [.null, .ref q1, .ref q2, .ref q3])), (q1, .inl (cI, 41, .inl (fun _ => 0))), (q2, .inl (cI, 41, .inl (fun _ => 0))), (q3, .inl (cI, 41, .inl (fun _ => 0)))] H := hP
  have hD : va_D A [(h0, .inr (4, [.null, .ref q1, .ref q2, .ref q3])), (q1, .inl (cI, 41, .inl (fun _ => 0))), (q2, .inl (cI, 41, .inl (fun _ => 0))), (q3, .inl (cI, 41, .inl (fun _ => 0)))] := hD
  refine lv_aload_n hx hb d_En_init_28 rfl (lv_at hl 0 rfl) ?_
  refine lv_aload_n hx hb d_En_init_29 rfl (lv_at hl 1 rfl) ?_
  refine va_putF (D := D) (ci := 4) (v := .ref p0) (ty := .object "PictureFile$Row") (C := R_En) (T := F_En) (N := 4) hx hb (kl_En hK.2) (fun _ h => h) t_En t_En_ok n_En hown hK.1 hP hD hS 0 rfl rfl 0 (by decide) (hw kw_140) (fun _ h9 => h9) rfl hin rfl (t_En_ok 0 (by decide)) rfl rfl (Nat.le_of_ble_eq_true rfl) d_En_init_30 (fun H locs hP hD hS => ?_)
  have hP : va_P D classes [(h0, .inr (4, [.ref p0, .ref q1, .ref q2, .ref q3])), (q1, .inl (cI, 41, .inl (fun _ => 0))), (q2, .inl (cI, 41, .inl (fun _ => 0))), (q3, .inl (cI, 41, .inl (fun _ => 0)))] H := hP
  have hD : va_D A [(h0, .inr (4, [.ref p0, .ref q1, .ref q2, .ref q3])), (q1, .inl (cI, 41, .inl (fun _ => 0))), (q2, .inl (cI, 41, .inl (fun _ => 0))), (q3, .inl (cI, 41, .inl (fun _ => 0)))] := hD
  exact ct_vret hx hb hr hlocks d_En_init_33 ⟨Nat.le_refl _, Nat.le_refl _⟩ hQ hAe hS (q1, q2, q3) rfl trivial (hP.sub [0, 1, 2, 3] rfl) (hD.sub [0, 1, 2, 3] rfl rfl)
set_option maxHeartbeats 4000000 in
set_option maxRecDepth 100000 in
theorem c_Rd_init {l : Launch} {D : va_G} {cB cI cJ : ClassId} (h0 : Nat) (p0 : Nat) : Ct classes BW l D (TY cB cI cJ) y_Rd_init b_Rd_init 2 none ({ frames := 2, cells := 9, slots := 723, locals := 33 } : Room) [.ref h0, .ref p0] [(h0, .inr (5, [.null, .null, .null, .null, .null, .int 0, .int 0, .int 0, .int 0, .int 0, .int 0, .int 0]))] (fun _ : Nat × Nat × Nat × Nat × Nat × Nat × Nat × Nat × Nat => True) (fun _ => none) (fun u => [(h0, .inr (5, [.ref p0, .ref u.2.2.2.2.2.1, .ref u.1, .ref u.2.2.1, .ref u.2.2.2.2.1, .int 0, .int 0, .int 0, .int 0, .int 0, .int 0, .int 0])), (u.1, .inr (3, [.ref u.2.1])), (u.2.1, .inl (cJ, 520, .inr (.inl (fun _ => 0)))), (u.2.2.1, .inr (1, [.int 8192, .ref u.2.2.2.1, .int 0])), (u.2.2.2.1, .inl (cI, 32, .inl (fun _ => 0))), (u.2.2.2.2.1, .inl (cI, 40, .inl (fun _ => 0))), (u.2.2.2.2.2.1, .inr (4, [.ref p0, .ref u.2.2.2.2.2.2.1, .ref u.2.2.2.2.2.2.2.1, .ref u.2.2.2.2.2.2.2.2])), (u.2.2.2.2.2.2.1, .inl (cI, 41, .inl (fun _ => 0))), (u.2.2.2.2.2.2.2.1, .inl (cI, 41, .inl (fun _ => 0))), (u.2.2.2.2.2.2.2.2, .inl (cI, 41, .inl (fun _ => 0)))]) 9 723 := by
  refine Ct.intro (by decide +kernel) (Nat.le_of_ble_eq_true rfl) ?_
  intro p e s m below meth c hx hb hr hml hlocks hnm hown hK A hAe hA hS hP hD ls hl Q hQ
  have hown : s.vm.findClass "PictureFile$Reader" = some m.cls := hown
  have hH : Hold classes BW D (TY cB cI cJ) p s m c b_Rd_init 2 "PictureFile$Reader" := ⟨bw_ok, hx, hb, hml, hown, hK⟩
  have hw : ∀ {w : Cond}, w ∈ BW → w.before ([.ref h0, .ref p0] : List Value).toArray s = true := fun h => Wd.at bw_ok hK.2 h
  have hl : lv_has ls 2 [(0, .ref h0), (1, .ref p0)] := hl
  have hin : meth.name = "<init>" := hnm
  refine lv_aload_n hx hb d_Rd_init_0 rfl (lv_at hl 0 rfl) ?_
  refine W.objInit hx hb hown (hw kw_451) (hw kw_437) (hw kw_438) rfl (by rw [hml]; exact hl.1) rfl d_Rd_init_1 (Nat.le_of_ble_eq_true rfl) (Nat.le_of_ble_eq_true rfl) ?_
  refine W.eq (g2 := F0 m 4 ls []) rfl ?_
  refine lv_aload_n hx hb d_Rd_init_4 rfl (lv_at hl 0 rfl) ?_
  refine va_new (D := D) (ci := 3) (fs := [.null]) (C := R_Pn) (T := F_Pn) (N := 1) hx hb (kl_Pn hK.2) (fun _ h => h) t_Pn t_Pn_ok hown (hw kw_452) (hw kw_453) (hw kw_120) hK.1 hP hD hS hA rfl (fun j hj => by rcases (show j = 0 by omega) with rfl <;> rfl) (Nat.le_of_ble_eq_true rfl) (Nat.le_of_ble_eq_true rfl) d_Rd_init_5 (fun q1 H hP hD hS => ?_)
  have hP : va_P D classes [(h0, .inr (5, [.null, .null, .null, .null, .null, .int 0, .int 0, .int 0, .int 0, .int 0, .int 0, .int 0])), (q1, .inr (3, [.null]))] H := hP
  have hD : va_D A [(h0, .inr (5, [.null, .null, .null, .null, .null, .int 0, .int 0, .int 0, .int 0, .int 0, .int 0, .int 0])), (q1, .inr (3, [.null]))] := hD
  refine W.widen (k := 1) (n := 1) (by decide) (by decide) ?_
  refine lv_dup hx hb d_Rd_init_8 rfl ?_
  refine ct_fin (wr := [(h0, .inr (5, [.null, .null, .null, .null, .null, .int 0, .int 0, .int 0, .int 0, .int 0, .int 0, .int 0]))]) (ct_runIN (host := "PictureFile") (n := 0) (b := q1) (As := []) (rest := [.ref q1, .ref h0]) hH (c_Pn_init q1  _) ⟨cal_Pn_init, ⟨Nat.le_of_ble_eq_true rfl, Nat.le_of_ble_eq_true rfl⟩, (Nat.le_of_ble_eq_true rfl), (Nat.le_of_ble_eq_true rfl)⟩ rfl kw_454 kw_455 kw_120 kw_456 (hP.sub (ws' := [(q1, .inr (3, [.null]))]) [1] rfl) (hD.sub (ws' := [(q1, .inr (3, [.null]))]) [1] rfl rfl) rfl hl.1 (Nat.le_of_ble_eq_true rfl) d_Rd_init_9) hP hD hS hA [1] [0] rfl rfl rfl (by decide) (fun u H locs hp hP hD hS => ?_)
  obtain ⟨q2_0, rfl⟩ : ∃ z, z = u := ⟨_, rfl⟩
  have hP : va_P D classes [(h0, .inr (5, [.null, .null, .null, .null, .null, .int 0, .int 0, .int 0, .int 0, .int 0, .int 0, .int 0])), (q1, .inr (3, [.ref q2_0])), (q2_0, .inl (cJ, 520, .inr (.inl (fun _ => 0))))] H := hP
  have hD : va_D A [(h0, .inr (5, [.null, .null, .null, .null, .null, .int 0, .int 0, .int 0, .int 0, .int 0, .int 0, .int 0])), (q1, .inr (3, [.ref q2_0])), (q2_0, .inl (cJ, 520, .inr (.inl (fun _ => 0))))] := hD
  refine W.widen (k := 2) (n := 521) (by decide) (by decide) ?_
  refine W.eq (g2 := F0 m 12 ls [.ref q1, .ref h0]) rfl ?_
  refine va_putF (D := D) (ci := 5) (v := .ref q1) (ty := .object "PictureFile$PageNumbers") (C := R_Rd) (T := F_Rd) (N := 12) hx hb (kl_Rd hK.2) (fun _ h => h) t_Rd t_Rd_ok n_Rd hown hK.1 hP hD hS 0 rfl rfl 2 (by decide) (hw kw_170) (fun _ h9 => h9) rfl hin rfl (t_Rd_ok 2 (by decide)) rfl rfl (Nat.le_of_ble_eq_true rfl) d_Rd_init_12 (fun H locs hP hD hS => ?_)
  have hP : va_P D classes [(h0, .inr (5, [.null, .null, .ref q1, .null, .null, .int 0, .int 0, .int 0, .int 0, .int 0, .int 0, .int 0])), (q1, .inr (3, [.ref q2_0])), (q2_0, .inl (cJ, 520, .inr (.inl (fun _ => 0))))] H := hP
  have hD : va_D A [(h0, .inr (5, [.null, .null, .ref q1, .null, .null, .int 0, .int 0, .int 0, .int 0, .int 0, .int 0, .int 0])), (q1, .inr (3, [.ref q2_0])), (q2_0, .inl (cJ, 520, .inr (.inl (fun _ => 0))))] := hD
  refine lv_aload_n hx hb d_Rd_init_15 rfl (lv_at hl 0 rfl) ?_
  refine va_new (D := D) (ci := 1) (fs := [.int 0, .null, .int 0]) (C := R_St) (T := F_St) (N := 3) hx hb (kl_St hK.2) (fun _ h => h) t_St t_St_ok hown (hw kw_457) (hw kw_444) (hw kw_86) hK.1 hP hD hS hA rfl (fun j hj => by rcases (show j = 0 ∨ j = 1 ∨ j = 2 by omega) with rfl | rfl | rfl <;> rfl) (Nat.le_of_ble_eq_true rfl) (Nat.le_of_ble_eq_true rfl) d_Rd_init_16 (fun q3 H hP hD hS => ?_)
  have hP : va_P D classes [(h0, .inr (5, [.null, .null, .ref q1, .null, .null, .int 0, .int 0, .int 0, .int 0, .int 0, .int 0, .int 0])), (q1, .inr (3, [.ref q2_0])), (q2_0, .inl (cJ, 520, .inr (.inl (fun _ => 0)))), (q3, .inr (1, [.int 0, .null, .int 0]))] H := hP
  have hD : va_D A [(h0, .inr (5, [.null, .null, .ref q1, .null, .null, .int 0, .int 0, .int 0, .int 0, .int 0, .int 0, .int 0])), (q1, .inr (3, [.ref q2_0])), (q2_0, .inl (cJ, 520, .inr (.inl (fun _ => 0)))), (q3, .inr (1, [.int 0, .null, .int 0]))] := hD
  refine W.widen (k := 3) (n := 524) (by decide) (by decide) ?_
  refine lv_dup hx hb d_Rd_init_19 rfl ?_
  refine lv_sipush (v := 8192) hx hb d_Rd_init_20 (by decide) ?_
  refine ct_fin (wr := [(h0, .inr (5, [.null, .null, .ref q1, .null, .null, .int 0, .int 0, .int 0, .int 0, .int 0, .int 0, .int 0])), (q1, .inr (3, [.ref q2_0])), (q2_0, .inl (cJ, 520, .inr (.inl (fun _ => 0))))]) (ct_runIN (host := "PictureFile") (n := 1) (b := q3) (As := [.int 8192]) (rest := [.ref q3, .ref h0]) hH (c_St_init q3 8192 _) ⟨cal_St_init, ⟨Nat.le_of_ble_eq_true rfl, Nat.le_of_ble_eq_true rfl⟩, (Nat.le_of_ble_eq_true rfl), (Nat.le_of_ble_eq_true rfl)⟩ rfl kw_458 kw_446 kw_86 kw_447 (hP.sub (ws' := [(q3, .inr (1, [.int 0, .null, .int 0]))]) [3] rfl) (hD.sub (ws' := [(q3, .inr (1, [.int 0, .null, .int 0]))]) [3] rfl rfl) rfl hl.1 (Nat.le_of_ble_eq_true rfl) d_Rd_init_23) hP hD hS hA [3] [0, 1, 2] rfl rfl rfl (by decide) (fun u H locs hp hP hD hS => ?_)
  obtain ⟨q4_0, rfl⟩ : ∃ z, z = u := ⟨_, rfl⟩
  have hP : va_P D classes [(h0, .inr (5, [.null, .null, .ref q1, .null, .null, .int 0, .int 0, .int 0, .int 0, .int 0, .int 0, .int 0])), (q1, .inr (3, [.ref q2_0])), (q2_0, .inl (cJ, 520, .inr (.inl (fun _ => 0)))), (q3, .inr (1, [.int 8192, .ref q4_0, .int 0])), (q4_0, .inl (cI, 32, .inl (fun _ => 0)))] H := hP
  have hD : va_D A [(h0, .inr (5, [.null, .null, .ref q1, .null, .null, .int 0, .int 0, .int 0, .int 0, .int 0, .int 0, .int 0])), (q1, .inr (3, [.ref q2_0])), (q2_0, .inl (cJ, 520, .inr (.inl (fun _ => 0)))), (q3, .inr (1, [.int 8192, .ref q4_0, .int 0])), (q4_0, .inl (cI, 32, .inl (fun _ => 0)))] := hD
  refine W.widen (k := 4) (n := 556) (by decide) (by decide) ?_
  refine W.eq (g2 := F0 m 26 ls [.ref q3, .ref h0]) rfl ?_
  refine va_putF (D := D) (ci := 5) (v := .ref q3) (ty := .object "PictureFile$Strips") (C := R_Rd) (T := F_Rd) (N := 12) hx hb (kl_Rd hK.2) (fun _ h => h) t_Rd t_Rd_ok n_Rd hown hK.1 hP hD hS 0 rfl rfl 3 (by decide) (hw kw_173) (fun _ h9 => h9) rfl hin rfl (t_Rd_ok 3 (by decide)) rfl rfl (Nat.le_of_ble_eq_true rfl) d_Rd_init_26 (fun H locs hP hD hS => ?_)
  have hP : va_P D classes [(h0, .inr (5, [.null, .null, .ref q1, .ref q3, .null, .int 0, .int 0, .int 0, .int 0, .int 0, .int 0, .int 0])), (q1, .inr (3, [.ref q2_0])), (q2_0, .inl (cJ, 520, .inr (.inl (fun _ => 0)))), (q3, .inr (1, [.int 8192, .ref q4_0, .int 0])), (q4_0, .inl (cI, 32, .inl (fun _ => 0)))] H := hP
  have hD : va_D A [(h0, .inr (5, [.null, .null, .ref q1, .ref q3, .null, .int 0, .int 0, .int 0, .int 0, .int 0, .int 0, .int 0])), (q1, .inr (3, [.ref q2_0])), (q2_0, .inl (cJ, 520, .inr (.inl (fun _ => 0)))), (q3, .inr (1, [.int 8192, .ref q4_0, .int 0])), (q4_0, .inl (cI, 32, .inl (fun _ => 0)))] := hD
  refine lv_aload_n hx hb d_Rd_init_29 rfl (lv_at hl 0 rfl) ?_
  refine lv_bipush (v := 40) hx hb d_Rd_init_30 (by decide) ?_
  refine va_newa (atype := .int) (ty := .int) (N' := 40) (a0 := (40, (.inl (fun _ => 0)))) hx hb (hw kw_441) rfl hK.1 hP hD hS hA (fun _ => rfl) (by decide) (by decide) (by decide) (Nat.le_of_ble_eq_true rfl) (Nat.le_of_ble_eq_true rfl) d_Rd_init_32 (fun q5 cA H hK2 hP hD hS => ?_)
  have hcA : cA = cI := ty_same hK2 1 rfl
  have hP : va_P D classes [(h0, .inr (5, [.null, .null, .ref q1, .ref q3, .null, .int 0, .int 0, .int 0, .int 0, .int 0, .int 0, .int 0])), (q1, .inr (3, [.ref q2_0])), (q2_0, .inl (cJ, 520, .inr (.inl (fun _ => 0)))), (q3, .inr (1, [.int 8192, .ref q4_0, .int 0])), (q4_0, .inl (cI, 32, .inl (fun _ => 0))), (q5, .inl (cI, 40, .inl (fun _ => 0)))] H := by rw [hcA] at hP; exact hP
  have hD : va_D A [(h0, .inr (5, [.null, .null, .ref q1, .ref q3, .null, .int 0, .int 0, .int 0, .int 0, .int 0, .int 0, .int 0])), (q1, .inr (3, [.ref q2_0])), (q2_0, .inl (cJ, 520, .inr (.inl (fun _ => 0)))), (q3, .inr (1, [.int 8192, .ref q4_0, .int 0])), (q4_0, .inl (cI, 32, .inl (fun _ => 0))), (q5, .inl (cI, 40, .inl (fun _ => 0)))] := by rw [hcA] at hD; exact hD
  clear hcA hK2
  refine W.widen (k := 5) (n := 596) (by decide) (by decide) ?_
  refine va_putF (D := D) (ci := 5) (v := .ref q5) (ty := .array .int) (C := R_Rd) (T := F_Rd) (N := 12) hx hb (kl_Rd hK.2) (fun _ h => h) t_Rd t_Rd_ok n_Rd hown hK.1 hP hD hS 0 rfl rfl 4 (by decide) (hw kw_172) (fun _ h9 => h9) rfl hin rfl (t_Rd_ok 4 (by decide)) rfl rfl (Nat.le_of_ble_eq_true rfl) d_Rd_init_34 (fun H locs hP hD hS => ?_)
  have hP : va_P D classes [(h0, .inr (5, [.null, .null, .ref q1, .ref q3, .ref q5, .int 0, .int 0, .int 0, .int 0, .int 0, .int 0, .int 0])), (q1, .inr (3, [.ref q2_0])), (q2_0, .inl (cJ, 520, .inr (.inl (fun _ => 0)))), (q3, .inr (1, [.int 8192, .ref q4_0, .int 0])), (q4_0, .inl (cI, 32, .inl (fun _ => 0))), (q5, .inl (cI, 40, .inl (fun _ => 0)))] H := hP
  have hD : va_D A [(h0, .inr (5, [.null, .null, .ref q1, .ref q3, .ref q5, .int 0, .int 0, .int 0, .int 0, .int 0, .int 0, .int 0])), (q1, .inr (3, [.ref q2_0])), (q2_0, .inl (cJ, 520, .inr (.inl (fun _ => 0)))), (q3, .inr (1, [.int 8192, .ref q4_0, .int 0])), (q4_0, .inl (cI, 32, .inl (fun _ => 0))), (q5, .inl (cI, 40, .inl (fun _ => 0)))] := hD
  refine lv_aload_n hx hb d_Rd_init_37 rfl (lv_at hl 0 rfl) ?_
  refine lv_aload_n hx hb d_Rd_init_38 rfl (lv_at hl 1 rfl) ?_
  refine va_putF (D := D) (ci := 5) (v := .ref p0) (ty := .object "PictureFile$Row") (C := R_Rd) (T := F_Rd) (N := 12) hx hb (kl_Rd hK.2) (fun _ h => h) t_Rd t_Rd_ok n_Rd hown hK.1 hP hD hS 0 rfl rfl 0 (by decide) (hw kw_182) (fun _ h9 => h9) rfl hin rfl (t_Rd_ok 0 (by decide)) rfl rfl (Nat.le_of_ble_eq_true rfl) d_Rd_init_39 (fun H locs hP hD hS => ?_)
  have hP : va_P D classes [(h0, .inr (5, [.ref p0, .null, .ref q1, .ref q3, .ref q5, .int 0, .int 0, .int 0, .int 0, .int 0, .int 0, .int 0])), (q1, .inr (3, [.ref q2_0])), (q2_0, .inl (cJ, 520, .inr (.inl (fun _ => 0)))), (q3, .inr (1, [.int 8192, .ref q4_0, .int 0])), (q4_0, .inl (cI, 32, .inl (fun _ => 0))), (q5, .inl (cI, 40, .inl (fun _ => 0)))] H := hP
  have hD : va_D A [(h0, .inr (5, [.ref p0, .null, .ref q1, .ref q3, .ref q5, .int 0, .int 0, .int 0, .int 0, .int 0, .int 0, .int 0])), (q1, .inr (3, [.ref q2_0])), (q2_0, .inl (cJ, 520, .inr (.inl (fun _ => 0)))), (q3, .inr (1, [.int 8192, .ref q4_0, .int 0])), (q4_0, .inl (cI, 32, .inl (fun _ => 0))), (q5, .inl (cI, 40, .inl (fun _ => 0)))] := hD
  refine lv_aload_n hx hb d_Rd_init_42 rfl (lv_at hl 0 rfl) ?_
  refine va_new (D := D) (ci := 4) (fs := [.null, .null, .null, .null]) (C := R_En) (T := F_En) (N := 4) hx hb (kl_En hK.2) (fun _ h => h) t_En t_En_ok hown (hw kw_459) (hw kw_460) (hw kw_134) hK.1 hP hD hS hA rfl (fun j hj => by rcases (show j = 0 ∨ j = 1 ∨ j = 2 ∨ j = 3 by omega) with rfl | rfl | rfl | rfl <;> rfl) (Nat.le_of_ble_eq_true rfl) (Nat.le_of_ble_eq_true rfl) d_Rd_init_43 (fun q6 H hP hD hS => ?_)
  have hP : va_P D classes [(h0, .inr (5, [.ref p0, .null, .ref q1, .ref q3, .ref q5, .int 0, .int 0, .int 0, .int 0, .int 0, .int 0, .int 0])), (q1, .inr (3, [.ref q2_0])), (q2_0, .inl (cJ, 520, .inr (.inl (fun _ => 0)))), (q3, .inr (1, [.int 8192, .ref q4_0, .int 0])), (q4_0, .inl (cI, 32, .inl (fun _ => 0))), (q5, .inl (cI, 40, .inl (fun _ => 0))), (q6, .inr (4, [.null, .null, .null, .null]))] H := hP
  have hD : va_D A [(h0, .inr (5, [.ref p0, .null, .ref q1, .ref q3, .ref q5, .int 0, .int 0, .int 0, .int 0, .int 0, .int 0, .int 0])), (q1, .inr (3, [.ref q2_0])), (q2_0, .inl (cJ, 520, .inr (.inl (fun _ => 0)))), (q3, .inr (1, [.int 8192, .ref q4_0, .int 0])), (q4_0, .inl (cI, 32, .inl (fun _ => 0))), (q5, .inl (cI, 40, .inl (fun _ => 0))), (q6, .inr (4, [.null, .null, .null, .null]))] := hD
  refine W.widen (k := 6) (n := 600) (by decide) (by decide) ?_
  refine lv_dup hx hb d_Rd_init_46 rfl ?_
  refine lv_aload_n hx hb d_Rd_init_47 rfl (lv_at hl 1 rfl) ?_
  refine ct_fin (wr := [(h0, .inr (5, [.ref p0, .null, .ref q1, .ref q3, .ref q5, .int 0, .int 0, .int 0, .int 0, .int 0, .int 0, .int 0])), (q1, .inr (3, [.ref q2_0])), (q2_0, .inl (cJ, 520, .inr (.inl (fun _ => 0)))), (q3, .inr (1, [.int 8192, .ref q4_0, .int 0])), (q4_0, .inl (cI, 32, .inl (fun _ => 0))), (q5, .inl (cI, 40, .inl (fun _ => 0)))]) (ct_runIN (host := "PictureFile") (n := 1) (b := q6) (As := [.ref p0]) (rest := [.ref q6, .ref h0]) hH (c_En_init q6 p0 _) ⟨cal_En_init, ⟨Nat.le_of_ble_eq_true rfl, Nat.le_of_ble_eq_true rfl⟩, (Nat.le_of_ble_eq_true rfl), (Nat.le_of_ble_eq_true rfl)⟩ rfl kw_461 kw_462 kw_134 kw_463 (hP.sub (ws' := [(q6, .inr (4, [.null, .null, .null, .null]))]) [6] rfl) (hD.sub (ws' := [(q6, .inr (4, [.null, .null, .null, .null]))]) [6] rfl rfl) rfl hl.1 (Nat.le_of_ble_eq_true rfl) d_Rd_init_48) hP hD hS hA [6] [0, 1, 2, 3, 4, 5] rfl rfl rfl (by decide) (fun u H locs hp hP hD hS => ?_)
  obtain ⟨q7_0, q7_1, q7_2⟩ := u
  have hP : va_P D classes [(h0, .inr (5, [.ref p0, .null, .ref q1, .ref q3, .ref q5, .int 0, .int 0, .int 0, .int 0, .int 0, .int 0, .int 0])), (q1, .inr (3, [.ref q2_0])), (q2_0, .inl (cJ, 520, .inr (.inl (fun _ => 0)))), (q3, .inr (1, [.int 8192, .ref q4_0, .int 0])), (q4_0, .inl (cI, 32, .inl (fun _ => 0))), (q5, .inl (cI, 40, .inl (fun _ => 0))), (q6, .inr (4, [.ref p0, .ref q7_0, .ref q7_1, .ref q7_2])), (q7_0, .inl (cI, 41, .inl (fun _ => 0))), (q7_1, .inl (cI, 41, .inl (fun _ => 0))), (q7_2, .inl (cI, 41, .inl (fun _ => 0)))] H := hP
  have hD : va_D A [(h0, .inr (5, [.ref p0, .null, .ref q1, .ref q3, .ref q5, .int 0, .int 0, .int 0, .int 0, .int 0, .int 0, .int 0])), (q1, .inr (3, [.ref q2_0])), (q2_0, .inl (cJ, 520, .inr (.inl (fun _ => 0)))), (q3, .inr (1, [.int 8192, .ref q4_0, .int 0])), (q4_0, .inl (cI, 32, .inl (fun _ => 0))), (q5, .inl (cI, 40, .inl (fun _ => 0))), (q6, .inr (4, [.ref p0, .ref q7_0, .ref q7_1, .ref q7_2])), (q7_0, .inl (cI, 41, .inl (fun _ => 0))), (q7_1, .inl (cI, 41, .inl (fun _ => 0))), (q7_2, .inl (cI, 41, .inl (fun _ => 0)))] := hD
  refine W.widen (k := 9) (n := 723) (by decide) (by decide) ?_
  refine W.eq (g2 := F0 m 51 ls [.ref q6, .ref h0]) rfl ?_
  refine va_putF (D := D) (ci := 5) (v := .ref q6) (ty := .object "PictureFile$Entries") (C := R_Rd) (T := F_Rd) (N := 12) hx hb (kl_Rd hK.2) (fun _ h => h) t_Rd t_Rd_ok n_Rd hown hK.1 hP hD hS 0 rfl rfl 1 (by decide) (hw kw_205) (fun _ h9 => h9) rfl hin rfl (t_Rd_ok 1 (by decide)) rfl rfl (Nat.le_of_ble_eq_true rfl) d_Rd_init_51 (fun H locs hP hD hS => ?_)
  have hP : va_P D classes [(h0, .inr (5, [.ref p0, .ref q6, .ref q1, .ref q3, .ref q5, .int 0, .int 0, .int 0, .int 0, .int 0, .int 0, .int 0])), (q1, .inr (3, [.ref q2_0])), (q2_0, .inl (cJ, 520, .inr (.inl (fun _ => 0)))), (q3, .inr (1, [.int 8192, .ref q4_0, .int 0])), (q4_0, .inl (cI, 32, .inl (fun _ => 0))), (q5, .inl (cI, 40, .inl (fun _ => 0))), (q6, .inr (4, [.ref p0, .ref q7_0, .ref q7_1, .ref q7_2])), (q7_0, .inl (cI, 41, .inl (fun _ => 0))), (q7_1, .inl (cI, 41, .inl (fun _ => 0))), (q7_2, .inl (cI, 41, .inl (fun _ => 0)))] H := hP
  have hD : va_D A [(h0, .inr (5, [.ref p0, .ref q6, .ref q1, .ref q3, .ref q5, .int 0, .int 0, .int 0, .int 0, .int 0, .int 0, .int 0])), (q1, .inr (3, [.ref q2_0])), (q2_0, .inl (cJ, 520, .inr (.inl (fun _ => 0)))), (q3, .inr (1, [.int 8192, .ref q4_0, .int 0])), (q4_0, .inl (cI, 32, .inl (fun _ => 0))), (q5, .inl (cI, 40, .inl (fun _ => 0))), (q6, .inr (4, [.ref p0, .ref q7_0, .ref q7_1, .ref q7_2])), (q7_0, .inl (cI, 41, .inl (fun _ => 0))), (q7_1, .inl (cI, 41, .inl (fun _ => 0))), (q7_2, .inl (cI, 41, .inl (fun _ => 0)))] := hD
  exact ct_vret hx hb hr hlocks d_Rd_init_54 ⟨Nat.le_refl _, Nat.le_refl _⟩ hQ hAe hS (q1, q2_0, q3, q4_0, q5, q6, q7_0, q7_1, q7_2) rfl trivial (hP.sub [0, 1, 2, 3, 4, 5, 6, 7, 8, 9] rfl) (hD.sub [0, 1, 2, 3, 4, 5, 6, 7, 8, 9] rfl rfl)
