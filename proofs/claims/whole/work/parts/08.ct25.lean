set_option maxHeartbeats 4000000 in
set_option maxRecDepth 100000 in
theorem c_Md_sound {l : Launch} {D : va_G} {cB cI cJ : ClassId} (h0 h1 h2 h3 h4 h5 h6 h7 h8 : Nat) (md : Nat → Int32) (sz : Int32) (fr : Int32) (bf : Nat → Int32) (mp : Nat → Int32) (ml : Nat → Int32) (mn : Nat → Int64) (mf : Nat → Int32) (sp : Nat → Int32) (sl : Nat → Int32) (et : Nat → Int32) (p0 : Int32) (p1 : Int32) (p2 : Int32) (hG : G_Md_sound md sz bf p0 p1 p2) : Ct classes BW l D (TY cB cI cJ) y_Md_sound b_Md_sound 13 (some .boolean) ({ frames := 3, cells := 0, slots := 0, locals := 67 } : Room) [.ref h0, .int p0, .int p1, .int p2] [(h0, .inr (7, [.int (md 0), .ref h1, .int sz, .int (md 1), .int (md 2), .int (md 3), .int (md 4), .int (md 5), .int (md 6), .int (md 7), .int (md 8), .int (md 9), .int (md 10), .int (md 11), .int (md 12), .int fr, .int (md 13), .ref h2, .ref h3, .int (md 14), .int (md 15), .ref h4, .ref h5, .ref h6, .ref h7, .int (md 16), .int (md 17), .int (md 18), .int (md 19), .ref h8])), (h1, .inl (cB, 65536, .inl bf)), (h2, .inl (cI, 512, .inl mp)), (h3, .inl (cI, 512, .inl ml)), (h4, .inl (cJ, 520, .inr (.inl mn))), (h5, .inl (cI, 41, .inl mf)), (h6, .inl (cI, 8192, .inl sp)), (h7, .inl (cI, 8192, .inl sl)), (h8, .inl (cI, 11, .inl et))] (fun u : Int32 × (Nat → Int32) => u = M_Md_sound md sz bf p0 p1 p2 ∧ (u.1 = 0 ∨ u.1 = 1)) (fun u => some (.int u.1)) (fun u => [(h0, .inr (7, [.int (u.2 0), .ref h1, .int sz, .int (u.2 1), .int (u.2 2), .int (u.2 3), .int (u.2 4), .int (u.2 5), .int (u.2 6), .int (u.2 7), .int (u.2 8), .int (u.2 9), .int (u.2 10), .int (u.2 11), .int (u.2 12), .int fr, .int (u.2 13), .ref h2, .ref h3, .int (u.2 14), .int (u.2 15), .ref h4, .ref h5, .ref h6, .ref h7, .int (u.2 16), .int (u.2 17), .int (u.2 18), .int (u.2 19), .ref h8])), (h1, .inl (cB, 65536, .inl bf)), (h2, .inl (cI, 512, .inl mp)), (h3, .inl (cI, 512, .inl ml)), (h4, .inl (cJ, 520, .inr (.inl mn))), (h5, .inl (cI, 41, .inl mf)), (h6, .inl (cI, 8192, .inl sp)), (h7, .inl (cI, 8192, .inl sl)), (h8, .inl (cI, 11, .inl et))]) (0) (0) := by
  refine Ct.intro (by decide +kernel) (Nat.le_of_ble_eq_true rfl) ?_
  intro p e s m below meth c hx hb hr hml hlocks hnm hown hK A hAe hA hS hP hD ls hl Q hQ
  have hown : s.vm.findClass "PictureFileModel" = some m.cls := hown
  have hH : Hold classes BW D (TY cB cI cJ) p s m c b_Md_sound 13 "PictureFileModel" := ⟨bw_ok, hx, hb, hml, hown, hK⟩
  have hw : ∀ {w : Cond}, w ∈ BW → w.before ([.ref h0, .int p0, .int p1, .int p2] : List Value).toArray s = true := fun h => Wd.at bw_ok hK.2 h
  have hl : lv_has ls 13 [(0, .ref h0), (1, .int p0), (2, .int p1), (3, .int p2)] := hl
  unfold G_Md_sound at hG
  have LP144 : ∀ (v5 : Int32) (v6 : Int64) (v9 : Int32) (v10 : Int32) (H : Heap) (locs : List Loc) (ls : Array Slot), GK_Md_sound_144 md sz bf p0 p1 p2 v5 v6 v9 v10 → M_Md_sound md sz bf p0 p1 p2 = K_Md_sound_144 md sz bf p0 p1 p2 v5 v6 v9 v10 → va_P D classes [(h0, .inr (7, [.int (md 0), .ref h1, .int sz, .int (md 1), .int (md 2), .int (md 3), .int (md 4), .int (md 5), .int (md 6), .int (md 7), .int (md 8), .int (md 9), .int (md 10), .int (md 11), .int (md 12), .int fr, .int (md 13), .ref h2, .ref h3, .int (md 14), .int (md 15), .ref h4, .ref h5, .ref h6, .ref h7, .int (md 16), .int (md 17), .int (md 18), .int (md 19), .ref h8])), (h1, .inl (cB, 65536, .inl bf)), (h2, .inl (cI, 512, .inl mp)), (h3, .inl (cI, 512, .inl ml)), (h4, .inl (cJ, 520, .inr (.inl mn))), (h5, .inl (cI, 41, .inl mf)), (h6, .inl (cI, 8192, .inl sp)), (h7, .inl (cI, 8192, .inl sl)), (h8, .inl (cI, 11, .inl et))] H → va_D A [(h0, .inr (7, [.int (md 0), .ref h1, .int sz, .int (md 1), .int (md 2), .int (md 3), .int (md 4), .int (md 5), .int (md 6), .int (md 7), .int (md 8), .int (md 9), .int (md 10), .int (md 11), .int (md 12), .int fr, .int (md 13), .ref h2, .ref h3, .int (md 14), .int (md 15), .ref h4, .ref h5, .ref h6, .ref h7, .int (md 16), .int (md 17), .int (md 18), .int (md 19), .ref h8])), (h1, .inl (cB, 65536, .inl bf)), (h2, .inl (cI, 512, .inl mp)), (h3, .inl (cI, 512, .inl ml)), (h4, .inl (cJ, 520, .inr (.inl mn))), (h5, .inl (cI, 41, .inl mf)), (h6, .inl (cI, 8192, .inl sp)), (h7, .inl (cI, 8192, .inl sl)), (h8, .inl (cI, 11, .inl et))] → va_S A s.heap H locs → lv_has ls 13 [(0, .ref h0), (1, .int p0), (2, .int p1), (3, .int p2), (5, .int v5), (6, .long v6), (9, .int v9), (10, .int v10)] → W p l e ({ frames := 3, cells := 0, slots := 0, locals := 67 } : Room) s m ([.ref h0, .int p0, .int p1, .int p2] : List Value).toArray below meth c H locs 0 0 Q (F0 m 144 ls []) := by
      intro v5 v6 v9 v10 H locs ls hG hM hP hD hS hl
      rw [GK_Md_sound_144] at hG
      refine lv_iload hx hb d_Md_sound_144 (lv_at hl 6 rfl) ?_
      refine lv_if_eq (tgt := 154) hx hb d_Md_sound_146 (by decide) (fun c_1 => ?_) (fun c_1 => ?_)
      · replace hG := gp_pos c_1 hG
        refine lv_aload_n hx hb d_Md_sound_154 rfl (lv_at hl 0 rfl) ?_
        refine lv_iconst (v := 4) hx hb d_Md_sound_155 (by decide) ?_
        refine lv_iload_n hx hb d_Md_sound_156 rfl (lv_at hl 1 rfl) ?_
        refine lv_iload_n hx hb d_Md_sound_157 rfl (lv_at hl 3 rfl) ?_
        refine lv_iconst (v := 0) hx hb d_Md_sound_158 (by decide) ?_
        refine ct_fin (wr := []) (ct_runV (n := 4) (C := R_Md) (b := h0) (As := [.int 4, .int p0, .int p2, .int 0]) (rest := []) hH (c_Md_wrong h0 h1 h2 h3 h4 h5 h6 h7 h8 md sz fr bf mp ml mn mf sp sl et 4 p0 p2 0 _) ⟨cal_Md_wrong, ⟨Nat.le_of_ble_eq_true rfl, Nat.le_of_ble_eq_true rfl⟩, (Nat.le_of_ble_eq_true rfl), (Nat.le_of_ble_eq_true rfl)⟩ kw_371 kw_372 kw_316 kw_373 kw_374 (va_recv hK.1 hP (ci := 7) (q0 := 0) rfl rfl) (hP.sub (ws' := [(h0, .inr (7, [.int (md 0), .ref h1, .int sz, .int (md 1), .int (md 2), .int (md 3), .int (md 4), .int (md 5), .int (md 6), .int (md 7), .int (md 8), .int (md 9), .int (md 10), .int (md 11), .int (md 12), .int fr, .int (md 13), .ref h2, .ref h3, .int (md 14), .int (md 15), .ref h4, .ref h5, .ref h6, .ref h7, .int (md 16), .int (md 17), .int (md 18), .int (md 19), .ref h8])), (h1, .inl (cB, 65536, .inl bf)), (h2, .inl (cI, 512, .inl mp)), (h3, .inl (cI, 512, .inl ml)), (h4, .inl (cJ, 520, .inr (.inl mn))), (h5, .inl (cI, 41, .inl mf)), (h6, .inl (cI, 8192, .inl sp)), (h7, .inl (cI, 8192, .inl sl)), (h8, .inl (cI, 11, .inl et))]) [0, 1, 2, 3, 4, 5, 6, 7, 8] rfl) (hD.sub (ws' := [(h0, .inr (7, [.int (md 0), .ref h1, .int sz, .int (md 1), .int (md 2), .int (md 3), .int (md 4), .int (md 5), .int (md 6), .int (md 7), .int (md 8), .int (md 9), .int (md 10), .int (md 11), .int (md 12), .int fr, .int (md 13), .ref h2, .ref h3, .int (md 14), .int (md 15), .ref h4, .ref h5, .ref h6, .ref h7, .int (md 16), .int (md 17), .int (md 18), .int (md 19), .ref h8])), (h1, .inl (cB, 65536, .inl bf)), (h2, .inl (cI, 512, .inl mp)), (h3, .inl (cI, 512, .inl ml)), (h4, .inl (cJ, 520, .inr (.inl mn))), (h5, .inl (cI, 41, .inl mf)), (h6, .inl (cI, 8192, .inl sp)), (h7, .inl (cI, 8192, .inl sl)), (h8, .inl (cI, 11, .inl et))]) [0, 1, 2, 3, 4, 5, 6, 7, 8] rfl rfl) rfl hl.1 (Nat.le_of_ble_eq_true rfl) d_Md_sound_159) hP hD hS hA [0, 1, 2, 3, 4, 5, 6, 7, 8] [] rfl rfl rfl (by decide) (fun u H locs hp hP hD hS => ?_)
        obtain ⟨x1, rfl⟩ : ∃ z, z = u := ⟨_, rfl⟩
        obtain ⟨e1, bz1⟩ := hp
        try dsimp only at e1 bz1
        have hP : va_P D classes [(h0, .inr (7, [.int (x1.2 0), .ref h1, .int sz, .int (x1.2 1), .int (x1.2 2), .int (x1.2 3), .int (x1.2 4), .int (x1.2 5), .int (x1.2 6), .int (x1.2 7), .int (x1.2 8), .int (x1.2 9), .int (x1.2 10), .int (x1.2 11), .int (x1.2 12), .int fr, .int (x1.2 13), .ref h2, .ref h3, .int (x1.2 14), .int (x1.2 15), .ref h4, .ref h5, .ref h6, .ref h7, .int (x1.2 16), .int (x1.2 17), .int (x1.2 18), .int (x1.2 19), .ref h8])), (h1, .inl (cB, 65536, .inl bf)), (h2, .inl (cI, 512, .inl mp)), (h3, .inl (cI, 512, .inl ml)), (h4, .inl (cJ, 520, .inr (.inl mn))), (h5, .inl (cI, 41, .inl mf)), (h6, .inl (cI, 8192, .inl sp)), (h7, .inl (cI, 8192, .inl sl)), (h8, .inl (cI, 11, .inl et))] H := hP
        have hD : va_D A [(h0, .inr (7, [.int (x1.2 0), .ref h1, .int sz, .int (x1.2 1), .int (x1.2 2), .int (x1.2 3), .int (x1.2 4), .int (x1.2 5), .int (x1.2 6), .int (x1.2 7), .int (x1.2 8), .int (x1.2 9), .int (x1.2 10), .int (x1.2 11), .int (x1.2 12), .int fr, .int (x1.2 13), .ref h2, .ref h3, .int (x1.2 14), .int (x1.2 15), .ref h4, .ref h5, .ref h6, .ref h7, .int (x1.2 16), .int (x1.2 17), .int (x1.2 18), .int (x1.2 19), .ref h8])), (h1, .inl (cB, 65536, .inl bf)), (h2, .inl (cI, 512, .inl mp)), (h3, .inl (cI, 512, .inl ml)), (h4, .inl (cJ, 520, .inr (.inl mn))), (h5, .inl (cI, 41, .inl mf)), (h6, .inl (cI, 8192, .inl sp)), (h7, .inl (cI, 8192, .inl sl)), (h8, .inl (cI, 11, .inl et))] := hD
        refine W.eq (g2 := F0 m 162 ls [.int x1.1]) rfl ?_
        have ef : M_Md_sound md sz bf p0 p1 p2 = (x1.1, x1.2) := by rw [hM, K_Md_sound_144]; (try dsimp only); rw [if_pos c_1]; (try rw [← e1])
        exact ct_iret hx hb hr (nb01 bz1) hlocks d_Md_sound_162 ⟨Nat.zero_le _, Nat.zero_le _⟩ hQ hAe hS (x1.1, x1.2) rfl ⟨ef.symm, bz1⟩ (hP.sub [0, 1, 2, 3, 4, 5, 6, 7, 8] rfl) (hD.sub [0, 1, 2, 3, 4, 5, 6, 7, 8] rfl rfl)
      · replace hG := gp_neg c_1 hG
        refine lv_iload hx hb d_Md_sound_149 (lv_at hl 7 rfl) ?_
        refine lv_if_ne (tgt := 163) hx hb d_Md_sound_151 (by decide) (fun c_2 => ?_) (fun c_2 => ?_)
        · replace hG := gp_neg c_2 hG
          refine lv_lload hx hb d_Md_sound_163 (lv_at hl 5 rfl) ?_
          refine lv_iload hx hb d_Md_sound_165 (lv_at hl 4 rfl) ?_
          refine ct_finP (ct_runS (n := 1) (As := [.int v5]) (rest := [.long v6]) hH (c_Md_sizeOf v5 _) ⟨cal_Md_sizeOf, ⟨Nat.le_of_ble_eq_true rfl, Nat.le_of_ble_eq_true rfl⟩, (Nat.le_of_ble_eq_true rfl), (Nat.le_of_ble_eq_true rfl)⟩ kw_375 kw_376 kw_316 kw_377 (hP.sub (ws' := []) [] rfl) (hD.sub (ws' := []) [] rfl rfl) rfl hl.1 (Nat.le_of_ble_eq_true rfl) d_Md_sound_167) hP hS (fun H hP hS => ?_)
          refine W.eq (g2 := F0 m 170 ls [.int (M_Md_sizeOf v5), .long v6]) rfl ?_
          refine lv_i2l hx hb d_Md_sound_170 rfl ?_
          refine lv_lmul hx hb d_Md_sound_171 ?_
          refine lv_topl (fun y2 e2 => ?_)
          replace hG := hG y2 e2
          refine lv_lstore (lv' := [(11, .long y2), (0, .ref h0), (1, .int p0), (2, .int p1), (3, .int p2), (5, .int v5), (6, .long v6), (9, .int v9), (10, .int v10)]) hx hb d_Md_sound_172 hl (by decide) rfl (fun ls hl => ?_)
          refine lv_lload hx hb d_Md_sound_174 (lv_at hl 0 rfl) ?_
          refine lv_ldc2 (v := 4) hx hb hown (hw kw_378) d_Md_sound_176 ?_
          refine W.lcmp hx hb d_Md_sound_179 ?_
          refine lv_if_le (tgt := 214) hx hb d_Md_sound_180 (by decide) (fun c_3 => ?_) (fun c_3 => ?_)
          · replace hG := gp_pos c_3 hG
            refine lv_iconst (v := 1) hx hb d_Md_sound_214 (by decide) ?_
            refine lv_goto (tgt := 219) hx hb d_Md_sound_215 (by decide) ?_
            have ef : M_Md_sound md sz bf p0 p1 p2 = (1, md) := by rw [hM, K_Md_sound_144]; (try dsimp only); rw [if_neg c_1]; rw [if_neg c_2]; (try rw [← e2]); rw [if_pos c_3]
            exact ct_iret hx hb hr (rfl) hlocks d_Md_sound_219 ⟨Nat.zero_le _, Nat.zero_le _⟩ hQ hAe hS (1, md) rfl ⟨ef.symm, (Or.inr rfl)⟩ (hP.sub [0, 1, 2, 3, 4, 5, 6, 7, 8] rfl) (hD.sub [0, 1, 2, 3, 4, 5, 6, 7, 8] rfl rfl)
          · replace hG := gp_neg c_3 hG
            refine lv_aload_n hx hb d_Md_sound_183 rfl (lv_at hl 1 rfl) ?_
            refine lv_iload_n hx hb d_Md_sound_184 rfl (lv_at hl 3 rfl) ?_
            refine lv_bipush (v := 8) hx hb d_Md_sound_185 (by decide) ?_
            refine lv_iadd hx hb d_Md_sound_187 ?_
            have g_8 := hG
            refine ct_finP (ct_runV (n := 1) (C := R_Md) (b := h0) (As := [.int (p1 + 8)]) (rest := []) hH (c_Md_readFour h0 h1 h2 h3 h4 h5 h6 h7 h8 md sz fr bf mp ml mn mf sp sl et (p1 + 8) g_8 _) ⟨cal_Md_readFour, ⟨Nat.le_of_ble_eq_true rfl, Nat.le_of_ble_eq_true rfl⟩, (Nat.le_of_ble_eq_true rfl), (Nat.le_of_ble_eq_true rfl)⟩ kw_379 kw_380 kw_316 kw_381 kw_382 (va_recv hK.1 hP (ci := 7) (q0 := 0) rfl rfl) (hP.sub (ws' := [(h0, .inr (7, [.int (md 0), .ref h1, .int sz, .int (md 1), .int (md 2), .int (md 3), .int (md 4), .int (md 5), .int (md 6), .int (md 7), .int (md 8), .int (md 9), .int (md 10), .int (md 11), .int (md 12), .int fr, .int (md 13), .ref h2, .ref h3, .int (md 14), .int (md 15), .ref h4, .ref h5, .ref h6, .ref h7, .int (md 16), .int (md 17), .int (md 18), .int (md 19), .ref h8])), (h1, .inl (cB, 65536, .inl bf)), (h2, .inl (cI, 512, .inl mp)), (h3, .inl (cI, 512, .inl ml)), (h4, .inl (cJ, 520, .inr (.inl mn))), (h5, .inl (cI, 41, .inl mf)), (h6, .inl (cI, 8192, .inl sp)), (h7, .inl (cI, 8192, .inl sl)), (h8, .inl (cI, 11, .inl et))]) [0, 1, 2, 3, 4, 5, 6, 7, 8] rfl) (hD.sub (ws' := [(h0, .inr (7, [.int (md 0), .ref h1, .int sz, .int (md 1), .int (md 2), .int (md 3), .int (md 4), .int (md 5), .int (md 6), .int (md 7), .int (md 8), .int (md 9), .int (md 10), .int (md 11), .int (md 12), .int fr, .int (md 13), .ref h2, .ref h3, .int (md 14), .int (md 15), .ref h4, .ref h5, .ref h6, .ref h7, .int (md 16), .int (md 17), .int (md 18), .int (md 19), .ref h8])), (h1, .inl (cB, 65536, .inl bf)), (h2, .inl (cI, 512, .inl mp)), (h3, .inl (cI, 512, .inl ml)), (h4, .inl (cJ, 520, .inr (.inl mn))), (h5, .inl (cI, 41, .inl mf)), (h6, .inl (cI, 8192, .inl sp)), (h7, .inl (cI, 8192, .inl sl)), (h8, .inl (cI, 11, .inl et))]) [0, 1, 2, 3, 4, 5, 6, 7, 8] rfl rfl) rfl hl.1 (Nat.le_of_ble_eq_true rfl) d_Md_sound_188) hP hS (fun H hP hS => ?_)
            refine W.eq (g2 := F0 m 191 ls [.long (M_Md_readFour md bf (p1 + 8))]) rfl ?_
            refine lv_lload hx hb d_Md_sound_191 (lv_at hl 0 rfl) ?_
            refine lv_ladd hx hb d_Md_sound_193 ?_
            refine lv_aload_n hx hb d_Md_sound_194 rfl (lv_at hl 1 rfl) ?_
            refine va_get (D := D) (ci := 7) (C := R_Md) (T := F_Md) (N := 30) hx hb (kl_Md hK.2) (fun _ h => h) hown hK.1 hP 0 rfl rfl 2 (by decide) (hw kw_312) (fun _ h9 => h9) rfl d_Md_sound_195 ?_
            refine lv_i2l hx hb d_Md_sound_198 rfl ?_
            refine W.lcmp hx hb d_Md_sound_199 ?_
            refine lv_if_le (tgt := 214) hx hb d_Md_sound_200 (by decide) (fun c_4 => ?_) (fun c_4 => ?_)
            · skip
              refine lv_iconst (v := 1) hx hb d_Md_sound_214 (by decide) ?_
              refine lv_goto (tgt := 219) hx hb d_Md_sound_215 (by decide) ?_
              have ef : M_Md_sound md sz bf p0 p1 p2 = (1, md) := by rw [hM, K_Md_sound_144]; (try dsimp only); rw [if_neg c_1]; rw [if_neg c_2]; (try rw [← e2]); rw [if_neg c_3]; rw [if_pos c_4]
              exact ct_iret hx hb hr (rfl) hlocks d_Md_sound_219 ⟨Nat.zero_le _, Nat.zero_le _⟩ hQ hAe hS (1, md) rfl ⟨ef.symm, (Or.inr rfl)⟩ (hP.sub [0, 1, 2, 3, 4, 5, 6, 7, 8] rfl) (hD.sub [0, 1, 2, 3, 4, 5, 6, 7, 8] rfl rfl)
            · skip
              refine lv_aload_n hx hb d_Md_sound_203 rfl (lv_at hl 1 rfl) ?_
              refine lv_iconst (v := 5) hx hb d_Md_sound_204 (by decide) ?_
              refine lv_iload_n hx hb d_Md_sound_205 rfl (lv_at hl 2 rfl) ?_
              refine lv_iload_n hx hb d_Md_sound_206 rfl (lv_at hl 4 rfl) ?_
              refine lv_iconst (v := 0) hx hb d_Md_sound_207 (by decide) ?_
              refine ct_fin (wr := []) (ct_runV (n := 4) (C := R_Md) (b := h0) (As := [.int 5, .int p0, .int p2, .int 0]) (rest := []) hH (c_Md_wrong h0 h1 h2 h3 h4 h5 h6 h7 h8 md sz fr bf mp ml mn mf sp sl et 5 p0 p2 0 _) ⟨cal_Md_wrong, ⟨Nat.le_of_ble_eq_true rfl, Nat.le_of_ble_eq_true rfl⟩, (Nat.le_of_ble_eq_true rfl), (Nat.le_of_ble_eq_true rfl)⟩ kw_371 kw_372 kw_316 kw_373 kw_374 (va_recv hK.1 hP (ci := 7) (q0 := 0) rfl rfl) (hP.sub (ws' := [(h0, .inr (7, [.int (md 0), .ref h1, .int sz, .int (md 1), .int (md 2), .int (md 3), .int (md 4), .int (md 5), .int (md 6), .int (md 7), .int (md 8), .int (md 9), .int (md 10), .int (md 11), .int (md 12), .int fr, .int (md 13), .ref h2, .ref h3, .int (md 14), .int (md 15), .ref h4, .ref h5, .ref h6, .ref h7, .int (md 16), .int (md 17), .int (md 18), .int (md 19), .ref h8])), (h1, .inl (cB, 65536, .inl bf)), (h2, .inl (cI, 512, .inl mp)), (h3, .inl (cI, 512, .inl ml)), (h4, .inl (cJ, 520, .inr (.inl mn))), (h5, .inl (cI, 41, .inl mf)), (h6, .inl (cI, 8192, .inl sp)), (h7, .inl (cI, 8192, .inl sl)), (h8, .inl (cI, 11, .inl et))]) [0, 1, 2, 3, 4, 5, 6, 7, 8] rfl) (hD.sub (ws' := [(h0, .inr (7, [.int (md 0), .ref h1, .int sz, .int (md 1), .int (md 2), .int (md 3), .int (md 4), .int (md 5), .int (md 6), .int (md 7), .int (md 8), .int (md 9), .int (md 10), .int (md 11), .int (md 12), .int fr, .int (md 13), .ref h2, .ref h3, .int (md 14), .int (md 15), .ref h4, .ref h5, .ref h6, .ref h7, .int (md 16), .int (md 17), .int (md 18), .int (md 19), .ref h8])), (h1, .inl (cB, 65536, .inl bf)), (h2, .inl (cI, 512, .inl mp)), (h3, .inl (cI, 512, .inl ml)), (h4, .inl (cJ, 520, .inr (.inl mn))), (h5, .inl (cI, 41, .inl mf)), (h6, .inl (cI, 8192, .inl sp)), (h7, .inl (cI, 8192, .inl sl)), (h8, .inl (cI, 11, .inl et))]) [0, 1, 2, 3, 4, 5, 6, 7, 8] rfl rfl) rfl hl.1 (Nat.le_of_ble_eq_true rfl) d_Md_sound_208) hP hD hS hA [0, 1, 2, 3, 4, 5, 6, 7, 8] [] rfl rfl rfl (by decide) (fun u H locs hp hP hD hS => ?_)
              obtain ⟨x3, rfl⟩ : ∃ z, z = u := ⟨_, rfl⟩
              obtain ⟨e3, bz3⟩ := hp
              try dsimp only at e3 bz3
              have hP : va_P D classes [(h0, .inr (7, [.int (x3.2 0), .ref h1, .int sz, .int (x3.2 1), .int (x3.2 2), .int (x3.2 3), .int (x3.2 4), .int (x3.2 5), .int (x3.2 6), .int (x3.2 7), .int (x3.2 8), .int (x3.2 9), .int (x3.2 10), .int (x3.2 11), .int (x3.2 12), .int fr, .int (x3.2 13), .ref h2, .ref h3, .int (x3.2 14), .int (x3.2 15), .ref h4, .ref h5, .ref h6, .ref h7, .int (x3.2 16), .int (x3.2 17), .int (x3.2 18), .int (x3.2 19), .ref h8])), (h1, .inl (cB, 65536, .inl bf)), (h2, .inl (cI, 512, .inl mp)), (h3, .inl (cI, 512, .inl ml)), (h4, .inl (cJ, 520, .inr (.inl mn))), (h5, .inl (cI, 41, .inl mf)), (h6, .inl (cI, 8192, .inl sp)), (h7, .inl (cI, 8192, .inl sl)), (h8, .inl (cI, 11, .inl et))] H := hP
              have hD : va_D A [(h0, .inr (7, [.int (x3.2 0), .ref h1, .int sz, .int (x3.2 1), .int (x3.2 2), .int (x3.2 3), .int (x3.2 4), .int (x3.2 5), .int (x3.2 6), .int (x3.2 7), .int (x3.2 8), .int (x3.2 9), .int (x3.2 10), .int (x3.2 11), .int (x3.2 12), .int fr, .int (x3.2 13), .ref h2, .ref h3, .int (x3.2 14), .int (x3.2 15), .ref h4, .ref h5, .ref h6, .ref h7, .int (x3.2 16), .int (x3.2 17), .int (x3.2 18), .int (x3.2 19), .ref h8])), (h1, .inl (cB, 65536, .inl bf)), (h2, .inl (cI, 512, .inl mp)), (h3, .inl (cI, 512, .inl ml)), (h4, .inl (cJ, 520, .inr (.inl mn))), (h5, .inl (cI, 41, .inl mf)), (h6, .inl (cI, 8192, .inl sp)), (h7, .inl (cI, 8192, .inl sl)), (h8, .inl (cI, 11, .inl et))] := hD
              refine W.eq (g2 := F0 m 211 ls [.int x3.1]) rfl ?_
              refine lv_if_eq (tgt := 218) hx hb d_Md_sound_211 (by decide) (fun c_5 => ?_) (fun c_5 => ?_)
              · skip
                refine lv_iconst (v := 0) hx hb d_Md_sound_218 (by decide) ?_
                have ef : M_Md_sound md sz bf p0 p1 p2 = (0, x3.2) := by rw [hM, K_Md_sound_144]; (try dsimp only); rw [if_neg c_1]; rw [if_neg c_2]; (try rw [← e2]); rw [if_neg c_3]; rw [if_neg c_4]; (try rw [← e3]); rw [if_pos c_5]
                exact ct_iret hx hb hr (rfl) hlocks d_Md_sound_219 ⟨Nat.zero_le _, Nat.zero_le _⟩ hQ hAe hS (0, x3.2) rfl ⟨ef.symm, (Or.inl rfl)⟩ (hP.sub [0, 1, 2, 3, 4, 5, 6, 7, 8] rfl) (hD.sub [0, 1, 2, 3, 4, 5, 6, 7, 8] rfl rfl)
              · skip
                refine lv_iconst (v := 1) hx hb d_Md_sound_214 (by decide) ?_
                refine lv_goto (tgt := 219) hx hb d_Md_sound_215 (by decide) ?_
                have ef : M_Md_sound md sz bf p0 p1 p2 = (1, x3.2) := by rw [hM, K_Md_sound_144]; (try dsimp only); rw [if_neg c_1]; rw [if_neg c_2]; (try rw [← e2]); rw [if_neg c_3]; rw [if_neg c_4]; (try rw [← e3]); rw [if_neg c_5]
                exact ct_iret hx hb hr (rfl) hlocks d_Md_sound_219 ⟨Nat.zero_le _, Nat.zero_le _⟩ hQ hAe hS (1, x3.2) rfl ⟨ef.symm, (Or.inr rfl)⟩ (hP.sub [0, 1, 2, 3, 4, 5, 6, 7, 8] rfl) (hD.sub [0, 1, 2, 3, 4, 5, 6, 7, 8] rfl rfl)
        · replace hG := gp_pos c_2 hG
          refine lv_aload_n hx hb d_Md_sound_154 rfl (lv_at hl 0 rfl) ?_
          refine lv_iconst (v := 4) hx hb d_Md_sound_155 (by decide) ?_
          refine lv_iload_n hx hb d_Md_sound_156 rfl (lv_at hl 1 rfl) ?_
          refine lv_iload_n hx hb d_Md_sound_157 rfl (lv_at hl 3 rfl) ?_
          refine lv_iconst (v := 0) hx hb d_Md_sound_158 (by decide) ?_
          refine ct_fin (wr := []) (ct_runV (n := 4) (C := R_Md) (b := h0) (As := [.int 4, .int p0, .int p2, .int 0]) (rest := []) hH (c_Md_wrong h0 h1 h2 h3 h4 h5 h6 h7 h8 md sz fr bf mp ml mn mf sp sl et 4 p0 p2 0 _) ⟨cal_Md_wrong, ⟨Nat.le_of_ble_eq_true rfl, Nat.le_of_ble_eq_true rfl⟩, (Nat.le_of_ble_eq_true rfl), (Nat.le_of_ble_eq_true rfl)⟩ kw_371 kw_372 kw_316 kw_373 kw_374 (va_recv hK.1 hP (ci := 7) (q0 := 0) rfl rfl) (hP.sub (ws' := [(h0, .inr (7, [.int (md 0), .ref h1, .int sz, .int (md 1), .int (md 2), .int (md 3), .int (md 4), .int (md 5), .int (md 6), .int (md 7), .int (md 8), .int (md 9), .int (md 10), .int (md 11), .int (md 12), .int fr, .int (md 13), .ref h2, .ref h3, .int (md 14), .int (md 15), .ref h4, .ref h5, .ref h6, .ref h7, .int (md 16), .int (md 17), .int (md 18), .int (md 19), .ref h8])), (h1, .inl (cB, 65536, .inl bf)), (h2, .inl (cI, 512, .inl mp)), (h3, .inl (cI, 512, .inl ml)), (h4, .inl (cJ, 520, .inr (.inl mn))), (h5, .inl (cI, 41, .inl mf)), (h6, .inl (cI, 8192, .inl sp)), (h7, .inl (cI, 8192, .inl sl)), (h8, .inl (cI, 11, .inl et))]) [0, 1, 2, 3, 4, 5, 6, 7, 8] rfl) (hD.sub (ws' := [(h0, .inr (7, [.int (md 0), .ref h1, .int sz, .int (md 1), .int (md 2), .int (md 3), .int (md 4), .int (md 5), .int (md 6), .int (md 7), .int (md 8), .int (md 9), .int (md 10), .int (md 11), .int (md 12), .int fr, .int (md 13), .ref h2, .ref h3, .int (md 14), .int (md 15), .ref h4, .ref h5, .ref h6, .ref h7, .int (md 16), .int (md 17), .int (md 18), .int (md 19), .ref h8])), (h1, .inl (cB, 65536, .inl bf)), (h2, .inl (cI, 512, .inl mp)), (h3, .inl (cI, 512, .inl ml)), (h4, .inl (cJ, 520, .inr (.inl mn))), (h5, .inl (cI, 41, .inl mf)), (h6, .inl (cI, 8192, .inl sp)), (h7, .inl (cI, 8192, .inl sl)), (h8, .inl (cI, 11, .inl et))]) [0, 1, 2, 3, 4, 5, 6, 7, 8] rfl rfl) rfl hl.1 (Nat.le_of_ble_eq_true rfl) d_Md_sound_159) hP hD hS hA [0, 1, 2, 3, 4, 5, 6, 7, 8] [] rfl rfl rfl (by decide) (fun u H locs hp hP hD hS => ?_)
          obtain ⟨x4, rfl⟩ : ∃ z, z = u := ⟨_, rfl⟩
          obtain ⟨e4, bz4⟩ := hp
          try dsimp only at e4 bz4
          have hP : va_P D classes [(h0, .inr (7, [.int (x4.2 0), .ref h1, .int sz, .int (x4.2 1), .int (x4.2 2), .int (x4.2 3), .int (x4.2 4), .int (x4.2 5), .int (x4.2 6), .int (x4.2 7), .int (x4.2 8), .int (x4.2 9), .int (x4.2 10), .int (x4.2 11), .int (x4.2 12), .int fr, .int (x4.2 13), .ref h2, .ref h3, .int (x4.2 14), .int (x4.2 15), .ref h4, .ref h5, .ref h6, .ref h7, .int (x4.2 16), .int (x4.2 17), .int (x4.2 18), .int (x4.2 19), .ref h8])), (h1, .inl (cB, 65536, .inl bf)), (h2, .inl (cI, 512, .inl mp)), (h3, .inl (cI, 512, .inl ml)), (h4, .inl (cJ, 520, .inr (.inl mn))), (h5, .inl (cI, 41, .inl mf)), (h6, .inl (cI, 8192, .inl sp)), (h7, .inl (cI, 8192, .inl sl)), (h8, .inl (cI, 11, .inl et))] H := hP
          have hD : va_D A [(h0, .inr (7, [.int (x4.2 0), .ref h1, .int sz, .int (x4.2 1), .int (x4.2 2), .int (x4.2 3), .int (x4.2 4), .int (x4.2 5), .int (x4.2 6), .int (x4.2 7), .int (x4.2 8), .int (x4.2 9), .int (x4.2 10), .int (x4.2 11), .int (x4.2 12), .int fr, .int (x4.2 13), .ref h2, .ref h3, .int (x4.2 14), .int (x4.2 15), .ref h4, .ref h5, .ref h6, .ref h7, .int (x4.2 16), .int (x4.2 17), .int (x4.2 18), .int (x4.2 19), .ref h8])), (h1, .inl (cB, 65536, .inl bf)), (h2, .inl (cI, 512, .inl mp)), (h3, .inl (cI, 512, .inl ml)), (h4, .inl (cJ, 520, .inr (.inl mn))), (h5, .inl (cI, 41, .inl mf)), (h6, .inl (cI, 8192, .inl sp)), (h7, .inl (cI, 8192, .inl sl)), (h8, .inl (cI, 11, .inl et))] := hD
          refine W.eq (g2 := F0 m 162 ls [.int x4.1]) rfl ?_
          have ef : M_Md_sound md sz bf p0 p1 p2 = (x4.1, x4.2) := by rw [hM, K_Md_sound_144]; (try dsimp only); rw [if_neg c_1]; rw [if_pos c_2]; (try rw [← e4])
          exact ct_iret hx hb hr (nb01 bz4) hlocks d_Md_sound_162 ⟨Nat.zero_le _, Nat.zero_le _⟩ hQ hAe hS (x4.1, x4.2) rfl ⟨ef.symm, bz4⟩ (hP.sub [0, 1, 2, 3, 4, 5, 6, 7, 8] rfl) (hD.sub [0, 1, 2, 3, 4, 5, 6, 7, 8] rfl rfl)
  have LP107 : ∀ (v4 : Int32) (v5 : Int32) (v6 : Int64) (v9 : Int32) (H : Heap) (locs : List Loc) (ls : Array Slot), GK_Md_sound_107 md sz bf p0 p1 p2 v4 v5 v6 v9 → M_Md_sound md sz bf p0 p1 p2 = K_Md_sound_107 md sz bf p0 p1 p2 v4 v5 v6 v9 → va_P D classes [(h0, .inr (7, [.int (md 0), .ref h1, .int sz, .int (md 1), .int (md 2), .int (md 3), .int (md 4), .int (md 5), .int (md 6), .int (md 7), .int (md 8), .int (md 9), .int (md 10), .int (md 11), .int (md 12), .int fr, .int (md 13), .ref h2, .ref h3, .int (md 14), .int (md 15), .ref h4, .ref h5, .ref h6, .ref h7, .int (md 16), .int (md 17), .int (md 18), .int (md 19), .ref h8])), (h1, .inl (cB, 65536, .inl bf)), (h2, .inl (cI, 512, .inl mp)), (h3, .inl (cI, 512, .inl ml)), (h4, .inl (cJ, 520, .inr (.inl mn))), (h5, .inl (cI, 41, .inl mf)), (h6, .inl (cI, 8192, .inl sp)), (h7, .inl (cI, 8192, .inl sl)), (h8, .inl (cI, 11, .inl et))] H → va_D A [(h0, .inr (7, [.int (md 0), .ref h1, .int sz, .int (md 1), .int (md 2), .int (md 3), .int (md 4), .int (md 5), .int (md 6), .int (md 7), .int (md 8), .int (md 9), .int (md 10), .int (md 11), .int (md 12), .int fr, .int (md 13), .ref h2, .ref h3, .int (md 14), .int (md 15), .ref h4, .ref h5, .ref h6, .ref h7, .int (md 16), .int (md 17), .int (md 18), .int (md 19), .ref h8])), (h1, .inl (cB, 65536, .inl bf)), (h2, .inl (cI, 512, .inl mp)), (h3, .inl (cI, 512, .inl ml)), (h4, .inl (cJ, 520, .inr (.inl mn))), (h5, .inl (cI, 41, .inl mf)), (h6, .inl (cI, 8192, .inl sp)), (h7, .inl (cI, 8192, .inl sl)), (h8, .inl (cI, 11, .inl et))] → va_S A s.heap H locs → lv_has ls 13 [(0, .ref h0), (1, .int p0), (2, .int p1), (3, .int p2), (4, .int v4), (5, .int v5), (6, .long v6), (9, .int v9)] → W p l e ({ frames := 3, cells := 0, slots := 0, locals := 67 } : Room) s m ([.ref h0, .int p0, .int p1, .int p2] : List Value).toArray below meth c H locs 0 0 Q (F0 m 107 ls []) := by
      intro v4 v5 v6 v9 H locs ls hG hM hP hD hS hl
      rw [GK_Md_sound_107] at hG
      refine lv_lload hx hb d_Md_sound_107 (lv_at hl 6 rfl) ?_
      refine lv_lconst (v := 1) hx hb d_Md_sound_109 (by decide) ?_
      refine W.lcmp hx hb d_Md_sound_110 ?_
      refine lv_if_lt (tgt := 141) hx hb d_Md_sound_111 (by decide) (fun c_6 => ?_) (fun c_6 => ?_)
      · replace hG := gp_pos c_6 hG
        refine lv_iconst (v := 0) hx hb d_Md_sound_141 (by decide) ?_
        refine lv_istore (lv' := [(10, .int 0), (0, .ref h0), (1, .int p0), (2, .int p1), (3, .int p2), (4, .int v4), (5, .int v5), (6, .long v6), (9, .int v9)]) hx hb d_Md_sound_142 hl (by decide) rfl (fun ls hl => ?_)
        exact LP144  v5 v6 v9 0 _ _ _ hG (by rw [hM, K_Md_sound_107]; (try dsimp only); rw [if_pos c_6])  (hP.sub [0, 1, 2, 3, 4, 5, 6, 7, 8] rfl) (hD.sub [0, 1, 2, 3, 4, 5, 6, 7, 8] rfl rfl) hS (lv_sub hl [1, 2, 3, 4, 6, 7, 8, 0] rfl)
      · replace hG := gp_neg c_6 hG
        refine lv_lload hx hb d_Md_sound_114 (lv_at hl 6 rfl) ?_
        refine lv_ldc2 (v := 4096) hx hb hown (hw kw_383) d_Md_sound_116 ?_
        refine W.lcmp hx hb d_Md_sound_119 ?_
        refine lv_if_gt (tgt := 141) hx hb d_Md_sound_120 (by decide) (fun c_7 => ?_) (fun c_7 => ?_)
        · replace hG := gp_pos c_7 hG
          refine lv_iconst (v := 0) hx hb d_Md_sound_141 (by decide) ?_
          refine lv_istore (lv' := [(10, .int 0), (0, .ref h0), (1, .int p0), (2, .int p1), (3, .int p2), (4, .int v4), (5, .int v5), (6, .long v6), (9, .int v9)]) hx hb d_Md_sound_142 hl (by decide) rfl (fun ls hl => ?_)
          exact LP144  v5 v6 v9 0 _ _ _ hG (by rw [hM, K_Md_sound_107]; (try dsimp only); rw [if_neg c_6]; rw [if_pos c_7])  (hP.sub [0, 1, 2, 3, 4, 5, 6, 7, 8] rfl) (hD.sub [0, 1, 2, 3, 4, 5, 6, 7, 8] rfl rfl) hS (lv_sub hl [1, 2, 3, 4, 6, 7, 8, 0] rfl)
        · replace hG := gp_neg c_7 hG
          refine lv_iload hx hb d_Md_sound_123 (lv_at hl 4 rfl) ?_
          refine lv_bipush (v := 8) hx hb d_Md_sound_125 (by decide) ?_
          refine lv_icmp_gt (tgt := 137) hx hb d_Md_sound_127 (by decide) (fun c_8 => ?_) (fun c_8 => ?_)
          · replace hG := gp_pos c_8 hG
            refine lv_iconst (v := 1) hx hb d_Md_sound_137 (by decide) ?_
            refine lv_goto (tgt := 142) hx hb d_Md_sound_138 (by decide) ?_
            refine lv_istore (lv' := [(10, .int 1), (0, .ref h0), (1, .int p0), (2, .int p1), (3, .int p2), (4, .int v4), (5, .int v5), (6, .long v6), (9, .int v9)]) hx hb d_Md_sound_142 hl (by decide) rfl (fun ls hl => ?_)
            exact LP144  v5 v6 v9 1 _ _ _ hG (by rw [hM, K_Md_sound_107]; (try dsimp only); rw [if_neg c_6]; rw [if_neg c_7]; rw [if_pos c_8])  (hP.sub [0, 1, 2, 3, 4, 5, 6, 7, 8] rfl) (hD.sub [0, 1, 2, 3, 4, 5, 6, 7, 8] rfl rfl) hS (lv_sub hl [1, 2, 3, 4, 6, 7, 8, 0] rfl)
          · replace hG := gp_neg c_8 hG
            refine lv_lload hx hb d_Md_sound_130 (lv_at hl 6 rfl) ?_
            refine lv_lconst (v := 1) hx hb d_Md_sound_132 (by decide) ?_
            refine W.lcmp hx hb d_Md_sound_133 ?_
            refine lv_if_ne (tgt := 141) hx hb d_Md_sound_134 (by decide) (fun c_9 => ?_) (fun c_9 => ?_)
            · replace hG := gp_neg c_9 hG
              refine lv_iconst (v := 0) hx hb d_Md_sound_141 (by decide) ?_
              refine lv_istore (lv' := [(10, .int 0), (0, .ref h0), (1, .int p0), (2, .int p1), (3, .int p2), (4, .int v4), (5, .int v5), (6, .long v6), (9, .int v9)]) hx hb d_Md_sound_142 hl (by decide) rfl (fun ls hl => ?_)
              exact LP144  v5 v6 v9 0 _ _ _ hG (by rw [hM, K_Md_sound_107]; (try dsimp only); rw [if_neg c_6]; rw [if_neg c_7]; rw [if_neg c_8]; rw [if_neg c_9])  (hP.sub [0, 1, 2, 3, 4, 5, 6, 7, 8] rfl) (hD.sub [0, 1, 2, 3, 4, 5, 6, 7, 8] rfl rfl) hS (lv_sub hl [1, 2, 3, 4, 6, 7, 8, 0] rfl)
            · replace hG := gp_pos c_9 hG
              refine lv_iconst (v := 1) hx hb d_Md_sound_137 (by decide) ?_
              refine lv_goto (tgt := 142) hx hb d_Md_sound_138 (by decide) ?_
              refine lv_istore (lv' := [(10, .int 1), (0, .ref h0), (1, .int p0), (2, .int p1), (3, .int p2), (4, .int v4), (5, .int v5), (6, .long v6), (9, .int v9)]) hx hb d_Md_sound_142 hl (by decide) rfl (fun ls hl => ?_)
              exact LP144  v5 v6 v9 1 _ _ _ hG (by rw [hM, K_Md_sound_107]; (try dsimp only); rw [if_neg c_6]; rw [if_neg c_7]; rw [if_neg c_8]; rw [if_pos c_9])  (hP.sub [0, 1, 2, 3, 4, 5, 6, 7, 8] rfl) (hD.sub [0, 1, 2, 3, 4, 5, 6, 7, 8] rfl rfl) hS (lv_sub hl [1, 2, 3, 4, 6, 7, 8, 0] rfl)
  have LP55 : ∀ (v4 : Int32) (v5 : Int32) (v6 : Int64) (v8 : Int32) (H : Heap) (locs : List Loc) (ls : Array Slot), GK_Md_sound_55 md sz bf p0 p1 p2 v4 v5 v6 v8 → M_Md_sound md sz bf p0 p1 p2 = K_Md_sound_55 md sz bf p0 p1 p2 v4 v5 v6 v8 → va_P D classes [(h0, .inr (7, [.int (md 0), .ref h1, .int sz, .int (md 1), .int (md 2), .int (md 3), .int (md 4), .int (md 5), .int (md 6), .int (md 7), .int (md 8), .int (md 9), .int (md 10), .int (md 11), .int (md 12), .int fr, .int (md 13), .ref h2, .ref h3, .int (md 14), .int (md 15), .ref h4, .ref h5, .ref h6, .ref h7, .int (md 16), .int (md 17), .int (md 18), .int (md 19), .ref h8])), (h1, .inl (cB, 65536, .inl bf)), (h2, .inl (cI, 512, .inl mp)), (h3, .inl (cI, 512, .inl ml)), (h4, .inl (cJ, 520, .inr (.inl mn))), (h5, .inl (cI, 41, .inl mf)), (h6, .inl (cI, 8192, .inl sp)), (h7, .inl (cI, 8192, .inl sl)), (h8, .inl (cI, 11, .inl et))] H → va_D A [(h0, .inr (7, [.int (md 0), .ref h1, .int sz, .int (md 1), .int (md 2), .int (md 3), .int (md 4), .int (md 5), .int (md 6), .int (md 7), .int (md 8), .int (md 9), .int (md 10), .int (md 11), .int (md 12), .int fr, .int (md 13), .ref h2, .ref h3, .int (md 14), .int (md 15), .ref h4, .ref h5, .ref h6, .ref h7, .int (md 16), .int (md 17), .int (md 18), .int (md 19), .ref h8])), (h1, .inl (cB, 65536, .inl bf)), (h2, .inl (cI, 512, .inl mp)), (h3, .inl (cI, 512, .inl ml)), (h4, .inl (cJ, 520, .inr (.inl mn))), (h5, .inl (cI, 41, .inl mf)), (h6, .inl (cI, 8192, .inl sp)), (h7, .inl (cI, 8192, .inl sl)), (h8, .inl (cI, 11, .inl et))] → va_S A s.heap H locs → lv_has ls 13 [(0, .ref h0), (1, .int p0), (2, .int p1), (3, .int p2), (4, .int v4), (5, .int v5), (6, .long v6), (8, .int v8)] → W p l e ({ frames := 3, cells := 0, slots := 0, locals := 67 } : Room) s m ([.ref h0, .int p0, .int p1, .int p2] : List Value).toArray below meth c H locs 0 0 Q (F0 m 55 ls []) := by
      intro v4 v5 v6 v8 H locs ls hG hM hP hD hS hl
      rw [GK_Md_sound_55] at hG
      refine lv_iload hx hb d_Md_sound_55 (lv_at hl 4 rfl) ?_
      refine lv_bipush (v := 7) hx hb d_Md_sound_57 (by decide) ?_
      refine lv_icmp_eq (tgt := 69) hx hb d_Md_sound_59 (by decide) (fun c_10 => ?_) (fun c_10 => ?_)
      · replace hG := gp_pos c_10 hG
        refine lv_iload hx hb d_Md_sound_69 (lv_at hl 5 rfl) ?_
        refine lv_iconst (v := 5) hx hb d_Md_sound_71 (by decide) ?_
        refine lv_icmp_ne (tgt := 79) hx hb d_Md_sound_72 (by decide) (fun c_11 => ?_) (fun c_11 => ?_)
        · replace hG := gp_neg c_11 hG
          refine lv_iconst (v := 0) hx hb d_Md_sound_79 (by decide) ?_
          refine lv_goto (tgt := 105) hx hb d_Md_sound_80 (by decide) ?_
          refine lv_istore (lv' := [(9, .int 0), (0, .ref h0), (1, .int p0), (2, .int p1), (3, .int p2), (4, .int v4), (5, .int v5), (6, .long v6), (8, .int v8)]) hx hb d_Md_sound_105 hl (by decide) rfl (fun ls hl => ?_)
          exact LP107  v4 v5 v6 0 _ _ _ hG (by rw [hM, K_Md_sound_55]; (try dsimp only); rw [if_pos c_10]; rw [if_neg c_11])  (hP.sub [0, 1, 2, 3, 4, 5, 6, 7, 8] rfl) (hD.sub [0, 1, 2, 3, 4, 5, 6, 7, 8] rfl rfl) hS (lv_sub hl [1, 2, 3, 4, 5, 6, 7, 0] rfl)
        · replace hG := gp_pos c_11 hG
          refine lv_iconst (v := 1) hx hb d_Md_sound_75 (by decide) ?_
          refine lv_goto (tgt := 105) hx hb d_Md_sound_76 (by decide) ?_
          refine lv_istore (lv' := [(9, .int 1), (0, .ref h0), (1, .int p0), (2, .int p1), (3, .int p2), (4, .int v4), (5, .int v5), (6, .long v6), (8, .int v8)]) hx hb d_Md_sound_105 hl (by decide) rfl (fun ls hl => ?_)
          exact LP107  v4 v5 v6 1 _ _ _ hG (by rw [hM, K_Md_sound_55]; (try dsimp only); rw [if_pos c_10]; rw [if_pos c_11])  (hP.sub [0, 1, 2, 3, 4, 5, 6, 7, 8] rfl) (hD.sub [0, 1, 2, 3, 4, 5, 6, 7, 8] rfl rfl) hS (lv_sub hl [1, 2, 3, 4, 5, 6, 7, 0] rfl)
      · replace hG := gp_neg c_10 hG
        refine lv_iload hx hb d_Md_sound_62 (lv_at hl 4 rfl) ?_
        refine lv_bipush (v := 8) hx hb d_Md_sound_64 (by decide) ?_
        refine lv_icmp_ne (tgt := 83) hx hb d_Md_sound_66 (by decide) (fun c_12 => ?_) (fun c_12 => ?_)
        · replace hG := gp_neg c_12 hG
          refine lv_iload hx hb d_Md_sound_83 (lv_at hl 5 rfl) ?_
          refine lv_iconst (v := 3) hx hb d_Md_sound_85 (by decide) ?_
          refine lv_icmp_eq (tgt := 100) hx hb d_Md_sound_86 (by decide) (fun c_13 => ?_) (fun c_13 => ?_)
          · replace hG := gp_pos c_13 hG
            refine lv_iconst (v := 1) hx hb d_Md_sound_100 (by decide) ?_
            refine lv_goto (tgt := 105) hx hb d_Md_sound_101 (by decide) ?_
            refine lv_istore (lv' := [(9, .int 1), (0, .ref h0), (1, .int p0), (2, .int p1), (3, .int p2), (4, .int v4), (5, .int v5), (6, .long v6), (8, .int v8)]) hx hb d_Md_sound_105 hl (by decide) rfl (fun ls hl => ?_)
            exact LP107  v4 v5 v6 1 _ _ _ hG (by rw [hM, K_Md_sound_55]; (try dsimp only); rw [if_neg c_10]; rw [if_neg c_12]; rw [if_pos c_13])  (hP.sub [0, 1, 2, 3, 4, 5, 6, 7, 8] rfl) (hD.sub [0, 1, 2, 3, 4, 5, 6, 7, 8] rfl rfl) hS (lv_sub hl [1, 2, 3, 4, 5, 6, 7, 0] rfl)
          · replace hG := gp_neg c_13 hG
            refine lv_iload hx hb d_Md_sound_89 (lv_at hl 7 rfl) ?_
            refine lv_if_eq (tgt := 104) hx hb d_Md_sound_91 (by decide) (fun c_14 => ?_) (fun c_14 => ?_)
            · replace hG := gp_pos c_14 hG
              refine lv_iconst (v := 0) hx hb d_Md_sound_104 (by decide) ?_
              refine lv_istore (lv' := [(9, .int 0), (0, .ref h0), (1, .int p0), (2, .int p1), (3, .int p2), (4, .int v4), (5, .int v5), (6, .long v6), (8, .int v8)]) hx hb d_Md_sound_105 hl (by decide) rfl (fun ls hl => ?_)
              exact LP107  v4 v5 v6 0 _ _ _ hG (by rw [hM, K_Md_sound_55]; (try dsimp only); rw [if_neg c_10]; rw [if_neg c_12]; rw [if_neg c_13]; rw [if_pos c_14])  (hP.sub [0, 1, 2, 3, 4, 5, 6, 7, 8] rfl) (hD.sub [0, 1, 2, 3, 4, 5, 6, 7, 8] rfl rfl) hS (lv_sub hl [1, 2, 3, 4, 5, 6, 7, 0] rfl)
            · replace hG := gp_neg c_14 hG
              refine lv_iload hx hb d_Md_sound_94 (lv_at hl 5 rfl) ?_
              refine lv_iconst (v := 4) hx hb d_Md_sound_96 (by decide) ?_
              refine lv_icmp_ne (tgt := 104) hx hb d_Md_sound_97 (by decide) (fun c_15 => ?_) (fun c_15 => ?_)
              · replace hG := gp_neg c_15 hG
                refine lv_iconst (v := 0) hx hb d_Md_sound_104 (by decide) ?_
                refine lv_istore (lv' := [(9, .int 0), (0, .ref h0), (1, .int p0), (2, .int p1), (3, .int p2), (4, .int v4), (5, .int v5), (6, .long v6), (8, .int v8)]) hx hb d_Md_sound_105 hl (by decide) rfl (fun ls hl => ?_)
                exact LP107  v4 v5 v6 0 _ _ _ hG (by rw [hM, K_Md_sound_55]; (try dsimp only); rw [if_neg c_10]; rw [if_neg c_12]; rw [if_neg c_13]; rw [if_neg c_14]; rw [if_neg c_15])  (hP.sub [0, 1, 2, 3, 4, 5, 6, 7, 8] rfl) (hD.sub [0, 1, 2, 3, 4, 5, 6, 7, 8] rfl rfl) hS (lv_sub hl [1, 2, 3, 4, 5, 6, 7, 0] rfl)
              · replace hG := gp_pos c_15 hG
                refine lv_iconst (v := 1) hx hb d_Md_sound_100 (by decide) ?_
                refine lv_goto (tgt := 105) hx hb d_Md_sound_101 (by decide) ?_
                refine lv_istore (lv' := [(9, .int 1), (0, .ref h0), (1, .int p0), (2, .int p1), (3, .int p2), (4, .int v4), (5, .int v5), (6, .long v6), (8, .int v8)]) hx hb d_Md_sound_105 hl (by decide) rfl (fun ls hl => ?_)
                exact LP107  v4 v5 v6 1 _ _ _ hG (by rw [hM, K_Md_sound_55]; (try dsimp only); rw [if_neg c_10]; rw [if_neg c_12]; rw [if_neg c_13]; rw [if_neg c_14]; rw [if_pos c_15])  (hP.sub [0, 1, 2, 3, 4, 5, 6, 7, 8] rfl) (hD.sub [0, 1, 2, 3, 4, 5, 6, 7, 8] rfl rfl) hS (lv_sub hl [1, 2, 3, 4, 5, 6, 7, 0] rfl)
        · replace hG := gp_pos c_12 hG
          refine lv_iload hx hb d_Md_sound_69 (lv_at hl 5 rfl) ?_
          refine lv_iconst (v := 5) hx hb d_Md_sound_71 (by decide) ?_
          refine lv_icmp_ne (tgt := 79) hx hb d_Md_sound_72 (by decide) (fun c_16 => ?_) (fun c_16 => ?_)
          · replace hG := gp_neg c_16 hG
            refine lv_iconst (v := 0) hx hb d_Md_sound_79 (by decide) ?_
            refine lv_goto (tgt := 105) hx hb d_Md_sound_80 (by decide) ?_
            refine lv_istore (lv' := [(9, .int 0), (0, .ref h0), (1, .int p0), (2, .int p1), (3, .int p2), (4, .int v4), (5, .int v5), (6, .long v6), (8, .int v8)]) hx hb d_Md_sound_105 hl (by decide) rfl (fun ls hl => ?_)
            exact LP107  v4 v5 v6 0 _ _ _ hG (by rw [hM, K_Md_sound_55]; (try dsimp only); rw [if_neg c_10]; rw [if_pos c_12]; rw [if_neg c_16])  (hP.sub [0, 1, 2, 3, 4, 5, 6, 7, 8] rfl) (hD.sub [0, 1, 2, 3, 4, 5, 6, 7, 8] rfl rfl) hS (lv_sub hl [1, 2, 3, 4, 5, 6, 7, 0] rfl)
          · replace hG := gp_pos c_16 hG
            refine lv_iconst (v := 1) hx hb d_Md_sound_75 (by decide) ?_
            refine lv_goto (tgt := 105) hx hb d_Md_sound_76 (by decide) ?_
            refine lv_istore (lv' := [(9, .int 1), (0, .ref h0), (1, .int p0), (2, .int p1), (3, .int p2), (4, .int v4), (5, .int v5), (6, .long v6), (8, .int v8)]) hx hb d_Md_sound_105 hl (by decide) rfl (fun ls hl => ?_)
            exact LP107  v4 v5 v6 1 _ _ _ hG (by rw [hM, K_Md_sound_55]; (try dsimp only); rw [if_neg c_10]; rw [if_pos c_12]; rw [if_pos c_16])  (hP.sub [0, 1, 2, 3, 4, 5, 6, 7, 8] rfl) (hD.sub [0, 1, 2, 3, 4, 5, 6, 7, 8] rfl rfl) hS (lv_sub hl [1, 2, 3, 4, 5, 6, 7, 0] rfl)
  refine lv_iload_n hx hb d_Md_sound_0 rfl (lv_at hl 3 rfl) ?_
  refine ct_finP (ct_runS (n := 1) (As := [.int p2]) (rest := []) hH (c_Md_known p2 _) ⟨cal_Md_known, ⟨Nat.le_of_ble_eq_true rfl, Nat.le_of_ble_eq_true rfl⟩, (Nat.le_of_ble_eq_true rfl), (Nat.le_of_ble_eq_true rfl)⟩ kw_384 kw_385 kw_316 kw_386 (hP.sub (ws' := []) [] rfl) (hD.sub (ws' := []) [] rfl rfl) rfl hl.1 (Nat.le_of_ble_eq_true rfl) d_Md_sound_1) hP hS (fun H hP hS => ?_)
  refine W.eq (g2 := F0 m 4 ls [.int (M_Md_known p2)]) rfl ?_
  refine lv_topi (fun y5 e5 => ?_)
  replace hG := hG y5 e5
  refine lv_istore (lv' := [(4, .int y5), (0, .ref h0), (1, .int p0), (2, .int p1), (3, .int p2)]) hx hb d_Md_sound_4 hl (by decide) rfl (fun ls hl => ?_)
  refine lv_aload_n hx hb d_Md_sound_6 rfl (lv_at hl 1 rfl) ?_
  refine lv_iload_n hx hb d_Md_sound_7 rfl (lv_at hl 3 rfl) ?_
  refine lv_iconst (v := 2) hx hb d_Md_sound_8 (by decide) ?_
  refine lv_iadd hx hb d_Md_sound_9 ?_
  obtain ⟨g_39, hG⟩ := hG
  refine ct_finP (ct_runV (n := 1) (C := R_Md) (b := h0) (As := [.int (p1 + 2)]) (rest := []) hH (c_Md_readTwo h0 h1 h2 h3 h4 h5 h6 h7 h8 md sz fr bf mp ml mn mf sp sl et (p1 + 2) g_39 _) ⟨cal_Md_readTwo, ⟨Nat.le_of_ble_eq_true rfl, Nat.le_of_ble_eq_true rfl⟩, (Nat.le_of_ble_eq_true rfl), (Nat.le_of_ble_eq_true rfl)⟩ kw_362 kw_363 kw_316 kw_364 kw_365 (va_recv hK.1 hP (ci := 7) (q0 := 0) rfl rfl) (hP.sub (ws' := [(h0, .inr (7, [.int (md 0), .ref h1, .int sz, .int (md 1), .int (md 2), .int (md 3), .int (md 4), .int (md 5), .int (md 6), .int (md 7), .int (md 8), .int (md 9), .int (md 10), .int (md 11), .int (md 12), .int fr, .int (md 13), .ref h2, .ref h3, .int (md 14), .int (md 15), .ref h4, .ref h5, .ref h6, .ref h7, .int (md 16), .int (md 17), .int (md 18), .int (md 19), .ref h8])), (h1, .inl (cB, 65536, .inl bf)), (h2, .inl (cI, 512, .inl mp)), (h3, .inl (cI, 512, .inl ml)), (h4, .inl (cJ, 520, .inr (.inl mn))), (h5, .inl (cI, 41, .inl mf)), (h6, .inl (cI, 8192, .inl sp)), (h7, .inl (cI, 8192, .inl sl)), (h8, .inl (cI, 11, .inl et))]) [0, 1, 2, 3, 4, 5, 6, 7, 8] rfl) (hD.sub (ws' := [(h0, .inr (7, [.int (md 0), .ref h1, .int sz, .int (md 1), .int (md 2), .int (md 3), .int (md 4), .int (md 5), .int (md 6), .int (md 7), .int (md 8), .int (md 9), .int (md 10), .int (md 11), .int (md 12), .int fr, .int (md 13), .ref h2, .ref h3, .int (md 14), .int (md 15), .ref h4, .ref h5, .ref h6, .ref h7, .int (md 16), .int (md 17), .int (md 18), .int (md 19), .ref h8])), (h1, .inl (cB, 65536, .inl bf)), (h2, .inl (cI, 512, .inl mp)), (h3, .inl (cI, 512, .inl ml)), (h4, .inl (cJ, 520, .inr (.inl mn))), (h5, .inl (cI, 41, .inl mf)), (h6, .inl (cI, 8192, .inl sp)), (h7, .inl (cI, 8192, .inl sl)), (h8, .inl (cI, 11, .inl et))]) [0, 1, 2, 3, 4, 5, 6, 7, 8] rfl rfl) rfl hl.1 (Nat.le_of_ble_eq_true rfl) d_Md_sound_10) hP hS (fun H hP hS => ?_)
  refine W.eq (g2 := F0 m 13 ls [.int (M_Md_readTwo md bf (p1 + 2))]) rfl ?_
  refine lv_topi (fun y6 e6 => ?_)
  replace hG := hG y6 e6
  refine lv_istore (lv' := [(5, .int y6), (4, .int y5), (0, .ref h0), (1, .int p0), (2, .int p1), (3, .int p2)]) hx hb d_Md_sound_13 hl (by decide) rfl (fun ls hl => ?_)
  refine lv_aload_n hx hb d_Md_sound_15 rfl (lv_at hl 2 rfl) ?_
  refine lv_iload_n hx hb d_Md_sound_16 rfl (lv_at hl 4 rfl) ?_
  refine lv_iconst (v := 4) hx hb d_Md_sound_17 (by decide) ?_
  refine lv_iadd hx hb d_Md_sound_18 ?_
  obtain ⟨g_41, hG⟩ := hG
  refine ct_finP (ct_runV (n := 1) (C := R_Md) (b := h0) (As := [.int (p1 + 4)]) (rest := []) hH (c_Md_readFour h0 h1 h2 h3 h4 h5 h6 h7 h8 md sz fr bf mp ml mn mf sp sl et (p1 + 4) g_41 _) ⟨cal_Md_readFour, ⟨Nat.le_of_ble_eq_true rfl, Nat.le_of_ble_eq_true rfl⟩, (Nat.le_of_ble_eq_true rfl), (Nat.le_of_ble_eq_true rfl)⟩ kw_379 kw_380 kw_316 kw_381 kw_382 (va_recv hK.1 hP (ci := 7) (q0 := 0) rfl rfl) (hP.sub (ws' := [(h0, .inr (7, [.int (md 0), .ref h1, .int sz, .int (md 1), .int (md 2), .int (md 3), .int (md 4), .int (md 5), .int (md 6), .int (md 7), .int (md 8), .int (md 9), .int (md 10), .int (md 11), .int (md 12), .int fr, .int (md 13), .ref h2, .ref h3, .int (md 14), .int (md 15), .ref h4, .ref h5, .ref h6, .ref h7, .int (md 16), .int (md 17), .int (md 18), .int (md 19), .ref h8])), (h1, .inl (cB, 65536, .inl bf)), (h2, .inl (cI, 512, .inl mp)), (h3, .inl (cI, 512, .inl ml)), (h4, .inl (cJ, 520, .inr (.inl mn))), (h5, .inl (cI, 41, .inl mf)), (h6, .inl (cI, 8192, .inl sp)), (h7, .inl (cI, 8192, .inl sl)), (h8, .inl (cI, 11, .inl et))]) [0, 1, 2, 3, 4, 5, 6, 7, 8] rfl) (hD.sub (ws' := [(h0, .inr (7, [.int (md 0), .ref h1, .int sz, .int (md 1), .int (md 2), .int (md 3), .int (md 4), .int (md 5), .int (md 6), .int (md 7), .int (md 8), .int (md 9), .int (md 10), .int (md 11), .int (md 12), .int fr, .int (md 13), .ref h2, .ref h3, .int (md 14), .int (md 15), .ref h4, .ref h5, .ref h6, .ref h7, .int (md 16), .int (md 17), .int (md 18), .int (md 19), .ref h8])), (h1, .inl (cB, 65536, .inl bf)), (h2, .inl (cI, 512, .inl mp)), (h3, .inl (cI, 512, .inl ml)), (h4, .inl (cJ, 520, .inr (.inl mn))), (h5, .inl (cI, 41, .inl mf)), (h6, .inl (cI, 8192, .inl sp)), (h7, .inl (cI, 8192, .inl sl)), (h8, .inl (cI, 11, .inl et))]) [0, 1, 2, 3, 4, 5, 6, 7, 8] rfl rfl) rfl hl.1 (Nat.le_of_ble_eq_true rfl) d_Md_sound_19) hP hS (fun H hP hS => ?_)
  refine W.eq (g2 := F0 m 22 ls [.long (M_Md_readFour md bf (p1 + 4))]) rfl ?_
  refine lv_topl (fun y7 e7 => ?_)
  replace hG := hG y7 e7
  refine lv_lstore (lv' := [(6, .long y7), (5, .int y6), (4, .int y5), (0, .ref h0), (1, .int p0), (2, .int p1), (3, .int p2)]) hx hb d_Md_sound_22 hl (by decide) rfl (fun ls hl => ?_)
  refine lv_iload hx hb d_Md_sound_24 (lv_at hl 2 rfl) ?_
  refine lv_if_eq (tgt := 48) hx hb d_Md_sound_26 (by decide) (fun c_17 => ?_) (fun c_17 => ?_)
  · replace hG := gp_pos c_17 hG
    refine lv_iconst (v := 1) hx hb d_Md_sound_48 (by decide) ?_
    refine lv_goto (tgt := 53) hx hb d_Md_sound_49 (by decide) ?_
    refine lv_istore (lv' := [(8, .int 1), (6, .long y7), (5, .int y6), (4, .int y5), (0, .ref h0), (1, .int p0), (2, .int p1), (3, .int p2)]) hx hb d_Md_sound_53 hl (by decide) rfl (fun ls hl => ?_)
    exact LP55  y5 y6 y7 1 _ _ _ hG (by unfold M_Md_sound; (try dsimp only); (try rw [← e5]); (try rw [← e6]); (try rw [← e7]); rw [if_pos c_17])  (hP.sub [0, 1, 2, 3, 4, 5, 6, 7, 8] rfl) (hD.sub [0, 1, 2, 3, 4, 5, 6, 7, 8] rfl rfl) hS (lv_sub hl [4, 5, 6, 7, 3, 2, 1, 0] rfl)
  · replace hG := gp_neg c_17 hG
    refine lv_iload hx hb d_Md_sound_29 (lv_at hl 2 rfl) ?_
    refine lv_iconst (v := 1) hx hb d_Md_sound_31 (by decide) ?_
    refine lv_icmp_eq (tgt := 48) hx hb d_Md_sound_32 (by decide) (fun c_18 => ?_) (fun c_18 => ?_)
    · replace hG := gp_pos c_18 hG
      refine lv_iconst (v := 1) hx hb d_Md_sound_48 (by decide) ?_
      refine lv_goto (tgt := 53) hx hb d_Md_sound_49 (by decide) ?_
      refine lv_istore (lv' := [(8, .int 1), (6, .long y7), (5, .int y6), (4, .int y5), (0, .ref h0), (1, .int p0), (2, .int p1), (3, .int p2)]) hx hb d_Md_sound_53 hl (by decide) rfl (fun ls hl => ?_)
      exact LP55  y5 y6 y7 1 _ _ _ hG (by unfold M_Md_sound; (try dsimp only); (try rw [← e5]); (try rw [← e6]); (try rw [← e7]); rw [if_neg c_17]; rw [if_pos c_18])  (hP.sub [0, 1, 2, 3, 4, 5, 6, 7, 8] rfl) (hD.sub [0, 1, 2, 3, 4, 5, 6, 7, 8] rfl rfl) hS (lv_sub hl [4, 5, 6, 7, 3, 2, 1, 0] rfl)
    · replace hG := gp_neg c_18 hG
      refine lv_iload hx hb d_Md_sound_35 (lv_at hl 2 rfl) ?_
      refine lv_iconst (v := 5) hx hb d_Md_sound_37 (by decide) ?_
      refine lv_icmp_eq (tgt := 48) hx hb d_Md_sound_38 (by decide) (fun c_19 => ?_) (fun c_19 => ?_)
      · replace hG := gp_pos c_19 hG
        refine lv_iconst (v := 1) hx hb d_Md_sound_48 (by decide) ?_
        refine lv_goto (tgt := 53) hx hb d_Md_sound_49 (by decide) ?_
        refine lv_istore (lv' := [(8, .int 1), (6, .long y7), (5, .int y6), (4, .int y5), (0, .ref h0), (1, .int p0), (2, .int p1), (3, .int p2)]) hx hb d_Md_sound_53 hl (by decide) rfl (fun ls hl => ?_)
        exact LP55  y5 y6 y7 1 _ _ _ hG (by unfold M_Md_sound; (try dsimp only); (try rw [← e5]); (try rw [← e6]); (try rw [← e7]); rw [if_neg c_17]; rw [if_neg c_18]; rw [if_pos c_19])  (hP.sub [0, 1, 2, 3, 4, 5, 6, 7, 8] rfl) (hD.sub [0, 1, 2, 3, 4, 5, 6, 7, 8] rfl rfl) hS (lv_sub hl [4, 5, 6, 7, 3, 2, 1, 0] rfl)
      · replace hG := gp_neg c_19 hG
        refine lv_iload hx hb d_Md_sound_41 (lv_at hl 2 rfl) ?_
        refine lv_bipush (v := 8) hx hb d_Md_sound_43 (by decide) ?_
        refine lv_icmp_le (tgt := 52) hx hb d_Md_sound_45 (by decide) (fun c_20 => ?_) (fun c_20 => ?_)
        · replace hG := gp_pos c_20 hG
          refine lv_iconst (v := 0) hx hb d_Md_sound_52 (by decide) ?_
          refine lv_istore (lv' := [(8, .int 0), (6, .long y7), (5, .int y6), (4, .int y5), (0, .ref h0), (1, .int p0), (2, .int p1), (3, .int p2)]) hx hb d_Md_sound_53 hl (by decide) rfl (fun ls hl => ?_)
          exact LP55  y5 y6 y7 0 _ _ _ hG (by unfold M_Md_sound; (try dsimp only); (try rw [← e5]); (try rw [← e6]); (try rw [← e7]); rw [if_neg c_17]; rw [if_neg c_18]; rw [if_neg c_19]; rw [if_pos c_20])  (hP.sub [0, 1, 2, 3, 4, 5, 6, 7, 8] rfl) (hD.sub [0, 1, 2, 3, 4, 5, 6, 7, 8] rfl rfl) hS (lv_sub hl [4, 5, 6, 7, 3, 2, 1, 0] rfl)
        · replace hG := gp_neg c_20 hG
          refine lv_iconst (v := 1) hx hb d_Md_sound_48 (by decide) ?_
          refine lv_goto (tgt := 53) hx hb d_Md_sound_49 (by decide) ?_
          refine lv_istore (lv' := [(8, .int 1), (6, .long y7), (5, .int y6), (4, .int y5), (0, .ref h0), (1, .int p0), (2, .int p1), (3, .int p2)]) hx hb d_Md_sound_53 hl (by decide) rfl (fun ls hl => ?_)
          exact LP55  y5 y6 y7 1 _ _ _ hG (by unfold M_Md_sound; (try dsimp only); (try rw [← e5]); (try rw [← e6]); (try rw [← e7]); rw [if_neg c_17]; rw [if_neg c_18]; rw [if_neg c_19]; rw [if_neg c_20])  (hP.sub [0, 1, 2, 3, 4, 5, 6, 7, 8] rfl) (hD.sub [0, 1, 2, 3, 4, 5, 6, 7, 8] rfl rfl) hS (lv_sub hl [4, 5, 6, 7, 3, 2, 1, 0] rfl)
