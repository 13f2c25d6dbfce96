set_option maxHeartbeats 4000000 in
set_option maxRecDepth 100000 in
theorem c_Row_makeEven {l : Launch} {D : va_G} {cB cI cJ : ClassId} (h0 h1 : Nat) (ro : RowS) (hro : RowOK ro) : Ct classes BW l D (TY cB cI cJ) y_Row_makeEven b_Row_makeEven 1 none ({ frames := 3, cells := 1, slots := 65536, locals := 103 } : Room) [.ref h0] [(h0, .inr (0, [.ref h1, .int ro.2.2])), (h1, .inl (cB, ro.1, .inl ro.2.1))] (fun u : Nat × RowS => u.2 = M_Row_makeEven ro ∧ RowOK u.2 ∧ ro.1 ≤ u.2.1) (fun u => none) (fun u => [(h0, .inr (0, [.ref u.1, .int u.2.2.2])), (u.1, .inl (cB, u.2.1, .inl u.2.2.1))]) (gC 1024 ro.1 (M_Row_makeEven ro).1) (gS ro.1 (M_Row_makeEven ro).1) := by
  refine Ct.intro (by decide +kernel) (Nat.le_of_ble_eq_true rfl) ?_
  intro p e s m below meth c hx hb hr hml hlocks hnm hown hK A hAe hA hS hP hD ls hl Q hQ
  have hown : s.vm.findClass "PictureFile$Row" = some m.cls := hown
  have hH : Hold classes BW D (TY cB cI cJ) p s m c b_Row_makeEven 1 "PictureFile$Row" := ⟨bw_ok, hx, hb, hml, hown, hK⟩
  have hw : ∀ {w : Cond}, w ∈ BW → w.before ([.ref h0] : List Value).toArray s = true := fun h => Wd.at bw_ok hK.2 h
  have hl : lv_has ls 1 [(0, .ref h0)] := hl
  have bo0ro := RowOK.le hro
  refine lv_aload_n hx hb d_Row_makeEven_0 rfl (lv_at hl 0 rfl) ?_
  refine va_get (D := D) (ci := 0) (C := R_Row) (T := F_Row) (N := 2) hx hb (kl_Row hK.2) (fun _ h => h) hown hK.1 hP 0 rfl rfl 1 (by decide) (hw kw_11) (fun _ h9 => h9) rfl d_Row_makeEven_1 ?_
  refine lv_iconst (v := 2) hx hb d_Row_makeEven_4 (by decide) ?_
  refine lv_irem hx hb d_Row_makeEven_5 (by decide) ?_
  refine lv_if_eq (tgt := 14) hx hb d_Row_makeEven_6 (by decide) (fun c_1 => ?_) (fun c_1 => ?_)
  · have ef : M_Row_makeEven ro = ro := by unfold M_Row_makeEven; (try dsimp only); rw [if_pos c_1]
    exact ct_vret hx hb hr hlocks d_Row_makeEven_14 ⟨Nat.zero_le _, Nat.zero_le _⟩ hQ hAe hS (h1, ro) rfl ⟨ef.symm, hro, (by show ro.1 ≤ ro.1; omega)⟩ (hP.sub [0, 1] rfl) (hD.sub [0, 1] rfl rfl)
  · refine lv_aload_n hx hb d_Row_makeEven_9 rfl (lv_at hl 0 rfl) ?_
    refine lv_iconst (v := 0) hx hb d_Row_makeEven_10 (by decide) ?_
    refine ct_fin (wr := []) (ct_runV (n := 1) (C := R_Row) (b := h0) (As := [.int 0]) (rest := []) hH (c_Row_add h0 h1 ro hro 0 _) ⟨cal_Row_add, ⟨Nat.le_of_ble_eq_true rfl, Nat.le_of_ble_eq_true rfl⟩, (Nat.le_of_ble_eq_true rfl), (Nat.le_of_ble_eq_true rfl)⟩ kw_30 kw_31 kw_24 kw_32 kw_33 (va_recv hK.1 hP (ci := 0) (q0 := 0) rfl rfl) (hP.sub (ws' := [(h0, .inr (0, [.ref h1, .int ro.2.2])), (h1, .inl (cB, ro.1, .inl ro.2.1))]) [0, 1] rfl) (hD.sub (ws' := [(h0, .inr (0, [.ref h1, .int ro.2.2])), (h1, .inl (cB, ro.1, .inl ro.2.1))]) [0, 1] rfl rfl) rfl hl.1 (Nat.le_of_ble_eq_true rfl) d_Row_makeEven_11) hP hD hS hA [0, 1] [] rfl rfl rfl (by decide) (fun u H locs hp hP hD hS => ?_)
    obtain ⟨q1ro, x1⟩ := u
    obtain ⟨e1, ok1ro, mo1ro⟩ := hp
    try dsimp only at e1 ok1ro mo1ro
    have bo1ro := RowOK.le ok1ro
    have hP : va_P D classes [(h0, .inr (0, [.ref q1ro, .int x1.2.2])), (q1ro, .inl (cB, x1.1, .inl x1.2.1))] H := hP
    have hD : va_D A [(h0, .inr (0, [.ref q1ro, .int x1.2.2])), (q1ro, .inl (cB, x1.1, .inl x1.2.1))] := hD
    refine W.widen (k := gC 1024 ro.1 x1.1) (n := gS ro.1 x1.1) (by rw [← e1]; simp only [gC]; omega) (by rw [← e1]; simp only [gS]; omega) ?_
    refine W.eq (g2 := F0 m 14 ls []) rfl ?_
    have ef : M_Row_makeEven ro = x1 := by unfold M_Row_makeEven; (try dsimp only); rw [if_neg c_1]; (try rw [← e1])
    exact ct_vret hx hb hr hlocks d_Row_makeEven_14 ⟨by rw [ef]; simp only [gC]; omega, by rw [ef]; simp only [gS]; omega⟩ hQ hAe hS (q1ro, x1) rfl ⟨ef.symm, ok1ro, (by show ro.1 ≤ x1.1; omega)⟩ (hP.sub [0, 1] rfl) (hD.sub [0, 1] rfl rfl)
set_option maxHeartbeats 4000000 in
set_option maxRecDepth 100000 in
theorem c_St_get {l : Launch} {D : va_G} {cB cI cJ : ClassId} (h0 h1 : Nat) (mo : Int32) (st : RowS) (hst : StOK mo st) (p0 : Int32) (p1 : Int32) : CtP classes BW l D (TY cB cI cJ) y_St_get b_St_get 4 (some .int) ({ frames := 0, cells := 0, slots := 0, locals := 0 } : Room) [.ref h0, .int p0, .int p1] [(h0, .inr (1, [.int mo, .ref h1, .int st.2.2])), (h1, .inl (cI, st.1, .inl st.2.1))] (some (.int (M_St_get st p0 p1))) := by
  refine CtP.intro (by decide +kernel) (Nat.le_of_ble_eq_true rfl) ?_
  intro p e s m below meth c hx hb hr hml hlocks hnm hown hK hS hP hD ls hl Q hQ
  have hown : s.vm.findClass "PictureFile$Strips" = some m.cls := hown
  have hH : Hold classes BW D (TY cB cI cJ) p s m c b_St_get 4 "PictureFile$Strips" := ⟨bw_ok, hx, hb, hml, hown, hK⟩
  have hw : ∀ {w : Cond}, w ∈ BW → w.before ([.ref h0, .int p0, .int p1] : List Value).toArray s = true := fun h => Wd.at bw_ok hK.2 h
  have hl : lv_has ls 4 [(0, .ref h0), (1, .int p0), (2, .int p1)] := hl
  have bo0st := StOK.le hst
  refine lv_iconst (v := 2) hx hb d_St_get_0 (by decide) ?_
  refine lv_iload_n hx hb d_St_get_1 rfl (lv_at hl 1 rfl) ?_
  refine lv_imul hx hb d_St_get_2 ?_
  refine lv_iload_n hx hb d_St_get_3 rfl (lv_at hl 2 rfl) ?_
  refine lv_iadd hx hb d_St_get_4 ?_
  refine lv_istore_n (lv' := [(3, .int ((2 * p0) + p1)), (0, .ref h0), (1, .int p0), (2, .int p1)]) hx hb d_St_get_5 rfl hl (by decide) rfl (fun ls hl => ?_)
  refine lv_iload_n hx hb d_St_get_6 rfl (lv_at hl 0 rfl) ?_
  refine lv_if_lt (tgt := 28) hx hb d_St_get_7 (by decide) (fun c_1 => ?_) (fun c_1 => ?_)
  · refine lv_iconst (v := 0) hx hb d_St_get_28 (by decide) ?_
    have ef : M_St_get st p0 p1 = 0 := by unfold M_St_get; (try dsimp only); rw [if_pos c_1]
    exact ct_piret hx hb hr rfl hlocks d_St_get_29 hQ hS (by rw [ef])
  · refine lv_iload_n hx hb d_St_get_10 rfl (lv_at hl 0 rfl) ?_
    refine lv_aload_n hx hb d_St_get_11 rfl (lv_at hl 1 rfl) ?_
    refine va_get (D := D) (ci := 1) (C := R_St) (T := F_St) (N := 3) hx hb (kl_St hK.2) (fun _ h => h) hown hK.1 hP 0 rfl rfl 1 (by decide) (hw kw_38) (fun _ h9 => h9) rfl d_St_get_12 ?_
    refine va_alen (v := nI st.1) hx hb hK.1 hP 1 1 rfl rfl rfl d_St_get_15 ?_
    refine lv_icmp_ge (tgt := 28) hx hb d_St_get_16 (by decide) (fun c_2 => ?_) (fun c_2 => ?_)
    · refine lv_iconst (v := 0) hx hb d_St_get_28 (by decide) ?_
      have ef : M_St_get st p0 p1 = 0 := by unfold M_St_get; (try dsimp only); rw [if_neg c_1]; rw [if_pos c_2]
      exact ct_piret hx hb hr rfl hlocks d_St_get_29 hQ hS (by rw [ef])
    · refine lv_aload_n hx hb d_St_get_19 rfl (lv_at hl 1 rfl) ?_
      refine va_get (D := D) (ci := 1) (C := R_St) (T := F_St) (N := 3) hx hb (kl_St hK.2) (fun _ h => h) hown hK.1 hP 0 rfl rfl 1 (by decide) (hw kw_38) (fun _ h9 => h9) rfl d_St_get_20 ?_
      refine lv_iload_n hx hb d_St_get_23 rfl (lv_at hl 0 rfl) ?_
      refine va_iald hx hb hK.1 hP 1 1 rfl rfl (vp_int c_1 c_2 (by omega)) d_St_get_24 ?_
      refine lv_goto (tgt := 29) hx hb d_St_get_25 (by decide) ?_
      have ef : M_St_get st p0 p1 = (st.2.1 ((2 * p0) + p1).toNatClampNeg) := by unfold M_St_get; (try dsimp only); rw [if_neg c_1]; rw [if_neg c_2]
      exact ct_piret hx hb hr rfl hlocks d_St_get_29 hQ hS (by rw [ef])
set_option maxHeartbeats 4000000 in
set_option maxRecDepth 100000 in
theorem c_St_add {l : Launch} {D : va_G} {cB cI cJ : ClassId} (h0 h1 : Nat) (mo : Int32) (st : RowS) (hst : StOK mo st) (p0 : Int32) (p1 : Int32) : Ct classes BW l D (TY cB cI cJ) y_St_add b_St_add 4 none ({ frames := 2, cells := 1, slots := 65536, locals := 82 } : Room) [.ref h0, .int p0, .int p1] [(h0, .inr (1, [.int mo, .ref h1, .int st.2.2])), (h1, .inl (cI, st.1, .inl st.2.1))] (fun u : Nat × RowS => u.2 = M_St_add mo st p0 p1 ∧ StOK mo u.2 ∧ st.1 ≤ u.2.1) (fun u => none) (fun u => [(h0, .inr (1, [.int mo, .ref u.1, .int u.2.2.2])), (u.1, .inl (cI, u.2.1, .inl u.2.2.1))]) (gC 32 st.1 (M_St_add mo st p0 p1).1) (gS st.1 (M_St_add mo st p0 p1).1) := by
  refine Ct.intro (by decide +kernel) (Nat.le_of_ble_eq_true rfl) ?_
  intro p e s m below meth c hx hb hr hml hlocks hnm hown hK A hAe hA hS hP hD ls hl Q hQ
  have hown : s.vm.findClass "PictureFile$Strips" = some m.cls := hown
  have hH : Hold classes BW D (TY cB cI cJ) p s m c b_St_add 4 "PictureFile$Strips" := ⟨bw_ok, hx, hb, hml, hown, hK⟩
  have hw : ∀ {w : Cond}, w ∈ BW → w.before ([.ref h0, .int p0, .int p1] : List Value).toArray s = true := fun h => Wd.at bw_ok hK.2 h
  have hl : lv_has ls 4 [(0, .ref h0), (1, .int p0), (2, .int p1)] := hl
  have bo0st := StOK.le hst
  refine lv_iconst (v := 2) hx hb d_St_add_0 (by decide) ?_
  refine lv_aload_n hx hb d_St_add_1 rfl (lv_at hl 0 rfl) ?_
  refine va_get (D := D) (ci := 1) (C := R_St) (T := F_St) (N := 3) hx hb (kl_St hK.2) (fun _ h => h) hown hK.1 hP 0 rfl rfl 2 (by decide) (hw kw_39) (fun _ h9 => h9) rfl d_St_add_2 ?_
  refine lv_imul hx hb d_St_add_5 ?_
  refine lv_aload_n hx hb d_St_add_6 rfl (lv_at hl 0 rfl) ?_
  refine va_get (D := D) (ci := 1) (C := R_St) (T := F_St) (N := 3) hx hb (kl_St hK.2) (fun _ h => h) hown hK.1 hP 0 rfl rfl 1 (by decide) (hw kw_38) (fun _ h9 => h9) rfl d_St_add_7 ?_
  refine va_alen (v := nI st.1) hx hb hK.1 hP 1 1 rfl rfl rfl d_St_add_10 ?_
  refine lv_icmp_lt (tgt := 51) hx hb d_St_add_11 (by decide) (fun c_1 => ?_) (fun c_1 => ?_)
  · refine lv_iconst (v := 2) hx hb d_St_add_51 (by decide) ?_
    refine lv_aload_n hx hb d_St_add_52 rfl (lv_at hl 0 rfl) ?_
    refine va_get (D := D) (ci := 1) (C := R_St) (T := F_St) (N := 3) hx hb (kl_St hK.2) (fun _ h => h) hown hK.1 hP 0 rfl rfl 2 (by decide) (hw kw_39) (fun _ h9 => h9) rfl d_St_add_53 ?_
    refine lv_imul hx hb d_St_add_56 ?_
    refine lv_istore_n (lv' := [(3, .int (2 * st.2.2)), (0, .ref h0), (1, .int p0), (2, .int p1)]) hx hb d_St_add_57 rfl hl (by decide) rfl (fun ls hl => ?_)
    refine lv_iload_n hx hb d_St_add_58 rfl (lv_at hl 0 rfl) ?_
    refine lv_if_lt (tgt := 99) hx hb d_St_add_59 (by decide) (fun c_2 => ?_) (fun c_2 => ?_)
    · have ef : M_St_add mo st p0 p1 = st := by unfold M_St_add; (try dsimp only); rw [if_pos c_1]; rw [if_pos c_2]
      exact ct_vret hx hb hr hlocks d_St_add_99 ⟨Nat.zero_le _, Nat.zero_le _⟩ hQ hAe hS (h1, st) rfl ⟨ef.symm, (by have h9 := ok_St_add hst p0 p1; rw [ef] at h9; exact h9), (by have h9 := mo_St_add hst p0 p1; rw [ef] at h9; exact h9)⟩ (hP.sub [0, 1] rfl) (hD.sub [0, 1] rfl rfl)
    · refine lv_iload_n hx hb d_St_add_62 rfl (lv_at hl 0 rfl) ?_
      refine lv_iconst (v := 1) hx hb d_St_add_63 (by decide) ?_
      refine lv_iadd hx hb d_St_add_64 ?_
      refine lv_aload_n hx hb d_St_add_65 rfl (lv_at hl 1 rfl) ?_
      refine va_get (D := D) (ci := 1) (C := R_St) (T := F_St) (N := 3) hx hb (kl_St hK.2) (fun _ h => h) hown hK.1 hP 0 rfl rfl 1 (by decide) (hw kw_38) (fun _ h9 => h9) rfl d_St_add_66 ?_
      refine va_alen (v := nI st.1) hx hb hK.1 hP 1 1 rfl rfl rfl d_St_add_69 ?_
      refine lv_icmp_ge (tgt := 99) hx hb d_St_add_70 (by decide) (fun c_3 => ?_) (fun c_3 => ?_)
      · have ef : M_St_add mo st p0 p1 = st := by unfold M_St_add; (try dsimp only); rw [if_pos c_1]; rw [if_neg c_2]; rw [if_pos c_3]
        exact ct_vret hx hb hr hlocks d_St_add_99 ⟨Nat.zero_le _, Nat.zero_le _⟩ hQ hAe hS (h1, st) rfl ⟨ef.symm, (by have h9 := ok_St_add hst p0 p1; rw [ef] at h9; exact h9), (by have h9 := mo_St_add hst p0 p1; rw [ef] at h9; exact h9)⟩ (hP.sub [0, 1] rfl) (hD.sub [0, 1] rfl rfl)
      · refine lv_aload_n hx hb d_St_add_73 rfl (lv_at hl 1 rfl) ?_
        refine va_get (D := D) (ci := 1) (C := R_St) (T := F_St) (N := 3) hx hb (kl_St hK.2) (fun _ h => h) hown hK.1 hP 0 rfl rfl 1 (by decide) (hw kw_38) (fun _ h9 => h9) rfl d_St_add_74 ?_
        refine lv_iload_n hx hb d_St_add_77 rfl (lv_at hl 0 rfl) ?_
        refine lv_iload_n hx hb d_St_add_78 rfl (lv_at hl 2 rfl) ?_
        refine va_iast hx hb hK.1 hP hD hS 1 1 rfl rfl ((st_in hst (by omega) c_3).1) d_St_add_79 (fun H locs hP hD hS => ?_)
        have hP : va_P D classes [(h0, .inr (1, [.int mo, .ref h1, .int st.2.2])), (h1, .inl (cI, st.1, .inl (upd st.2.1 (2 * st.2.2).toNatClampNeg p0)))] H := hP
        have hD : va_D A [(h0, .inr (1, [.int mo, .ref h1, .int st.2.2])), (h1, .inl (cI, st.1, .inl (upd st.2.1 (2 * st.2.2).toNatClampNeg p0)))] := hD
        refine lv_aload_n hx hb d_St_add_80 rfl (lv_at hl 1 rfl) ?_
        refine va_get (D := D) (ci := 1) (C := R_St) (T := F_St) (N := 3) hx hb (kl_St hK.2) (fun _ h => h) hown hK.1 hP 0 rfl rfl 1 (by decide) (hw kw_38) (fun _ h9 => h9) rfl d_St_add_81 ?_
        refine lv_iload_n hx hb d_St_add_84 rfl (lv_at hl 0 rfl) ?_
        refine lv_iconst (v := 1) hx hb d_St_add_85 (by decide) ?_
        refine lv_iadd hx hb d_St_add_86 ?_
        refine lv_iload_n hx hb d_St_add_87 rfl (lv_at hl 3 rfl) ?_
        refine va_iast hx hb hK.1 hP hD hS 1 1 rfl rfl ((st_in hst (by omega) c_3).2) d_St_add_88 (fun H locs hP hD hS => ?_)
        have hP : va_P D classes [(h0, .inr (1, [.int mo, .ref h1, .int st.2.2])), (h1, .inl (cI, st.1, .inl (upd (upd st.2.1 (2 * st.2.2).toNatClampNeg p0) ((2 * st.2.2) + 1).toNatClampNeg p1)))] H := hP
        have hD : va_D A [(h0, .inr (1, [.int mo, .ref h1, .int st.2.2])), (h1, .inl (cI, st.1, .inl (upd (upd st.2.1 (2 * st.2.2).toNatClampNeg p0) ((2 * st.2.2) + 1).toNatClampNeg p1)))] := hD
        refine lv_aload_n hx hb d_St_add_89 rfl (lv_at hl 1 rfl) ?_
        refine lv_dup hx hb d_St_add_90 rfl ?_
        refine va_get (D := D) (ci := 1) (C := R_St) (T := F_St) (N := 3) hx hb (kl_St hK.2) (fun _ h => h) hown hK.1 hP 0 rfl rfl 2 (by decide) (hw kw_39) (fun _ h9 => h9) rfl d_St_add_91 ?_
        refine lv_iconst (v := 1) hx hb d_St_add_94 (by decide) ?_
        refine lv_iadd hx hb d_St_add_95 ?_
        refine lv_topi (fun y1 e1 => ?_)
        refine va_put (D := D) (ci := 1) (v := .int y1) (ty := .int) (C := R_St) (T := F_St) (N := 3) hx hb (kl_St hK.2) (fun _ h => h) t_St t_St_ok n_St hown hK.1 hP hD hS 0 rfl rfl 2 (by decide) (hw kw_39) (fun _ h9 => h9) rfl (t_St_ok 2 (by decide)) rfl rfl (Nat.le_of_ble_eq_true rfl) d_St_add_96 (fun H locs hP hD hS => ?_)
        have hP : va_P D classes [(h0, .inr (1, [.int mo, .ref h1, .int y1])), (h1, .inl (cI, st.1, .inl (upd (upd st.2.1 (2 * st.2.2).toNatClampNeg p0) ((2 * st.2.2) + 1).toNatClampNeg p1)))] H := hP
        have hD : va_D A [(h0, .inr (1, [.int mo, .ref h1, .int y1])), (h1, .inl (cI, st.1, .inl (upd (upd st.2.1 (2 * st.2.2).toNatClampNeg p0) ((2 * st.2.2) + 1).toNatClampNeg p1)))] := hD
        have ef : M_St_add mo st p0 p1 = (st.1, (upd (upd st.2.1 (2 * st.2.2).toNatClampNeg p0) ((2 * st.2.2) + 1).toNatClampNeg p1), y1) := by unfold M_St_add; (try dsimp only); rw [if_pos c_1]; rw [if_neg c_2]; rw [if_neg c_3]; (try rw [← e1])
        exact ct_vret hx hb hr hlocks d_St_add_99 ⟨Nat.zero_le _, Nat.zero_le _⟩ hQ hAe hS (h1, (st.1, (upd (upd st.2.1 (2 * st.2.2).toNatClampNeg p0) ((2 * st.2.2) + 1).toNatClampNeg p1), y1)) rfl ⟨ef.symm, (by have h9 := ok_St_add hst p0 p1; rw [ef] at h9; exact h9), (by have h9 := mo_St_add hst p0 p1; rw [ef] at h9; exact h9)⟩ (hP.sub [0, 1] rfl) (hD.sub [0, 1] rfl rfl)
  · refine lv_aload_n hx hb d_St_add_14 rfl (lv_at hl 0 rfl) ?_
    refine va_get (D := D) (ci := 1) (C := R_St) (T := F_St) (N := 3) hx hb (kl_St hK.2) (fun _ h => h) hown hK.1 hP 0 rfl rfl 2 (by decide) (hw kw_39) (fun _ h9 => h9) rfl d_St_add_15 ?_
    refine lv_aload_n hx hb d_St_add_18 rfl (lv_at hl 0 rfl) ?_
    refine va_get (D := D) (ci := 1) (C := R_St) (T := F_St) (N := 3) hx hb (kl_St hK.2) (fun _ h => h) hown hK.1 hP 0 rfl rfl 0 (by decide) (hw kw_40) (fun _ h9 => h9) rfl d_St_add_19 ?_
    refine lv_icmp_ge (tgt := 51) hx hb d_St_add_22 (by decide) (fun c_4 => ?_) (fun c_4 => ?_)
    · refine lv_iconst (v := 2) hx hb d_St_add_51 (by decide) ?_
      refine lv_aload_n hx hb d_St_add_52 rfl (lv_at hl 0 rfl) ?_
      refine va_get (D := D) (ci := 1) (C := R_St) (T := F_St) (N := 3) hx hb (kl_St hK.2) (fun _ h => h) hown hK.1 hP 0 rfl rfl 2 (by decide) (hw kw_39) (fun _ h9 => h9) rfl d_St_add_53 ?_
      refine lv_imul hx hb d_St_add_56 ?_
      refine lv_istore_n (lv' := [(3, .int (2 * st.2.2)), (0, .ref h0), (1, .int p0), (2, .int p1)]) hx hb d_St_add_57 rfl hl (by decide) rfl (fun ls hl => ?_)
      refine lv_iload_n hx hb d_St_add_58 rfl (lv_at hl 0 rfl) ?_
      refine lv_if_lt (tgt := 99) hx hb d_St_add_59 (by decide) (fun c_5 => ?_) (fun c_5 => ?_)
      · have ef : M_St_add mo st p0 p1 = st := by unfold M_St_add; (try dsimp only); rw [if_neg c_1]; rw [if_pos c_4]; rw [if_pos c_5]
        exact ct_vret hx hb hr hlocks d_St_add_99 ⟨Nat.zero_le _, Nat.zero_le _⟩ hQ hAe hS (h1, st) rfl ⟨ef.symm, (by have h9 := ok_St_add hst p0 p1; rw [ef] at h9; exact h9), (by have h9 := mo_St_add hst p0 p1; rw [ef] at h9; exact h9)⟩ (hP.sub [0, 1] rfl) (hD.sub [0, 1] rfl rfl)
      · refine lv_iload_n hx hb d_St_add_62 rfl (lv_at hl 0 rfl) ?_
        refine lv_iconst (v := 1) hx hb d_St_add_63 (by decide) ?_
        refine lv_iadd hx hb d_St_add_64 ?_
        refine lv_aload_n hx hb d_St_add_65 rfl (lv_at hl 1 rfl) ?_
        refine va_get (D := D) (ci := 1) (C := R_St) (T := F_St) (N := 3) hx hb (kl_St hK.2) (fun _ h => h) hown hK.1 hP 0 rfl rfl 1 (by decide) (hw kw_38) (fun _ h9 => h9) rfl d_St_add_66 ?_
        refine va_alen (v := nI st.1) hx hb hK.1 hP 1 1 rfl rfl rfl d_St_add_69 ?_
        refine lv_icmp_ge (tgt := 99) hx hb d_St_add_70 (by decide) (fun c_6 => ?_) (fun c_6 => ?_)
        · have ef : M_St_add mo st p0 p1 = st := by unfold M_St_add; (try dsimp only); rw [if_neg c_1]; rw [if_pos c_4]; rw [if_neg c_5]; rw [if_pos c_6]
          exact ct_vret hx hb hr hlocks d_St_add_99 ⟨Nat.zero_le _, Nat.zero_le _⟩ hQ hAe hS (h1, st) rfl ⟨ef.symm, (by have h9 := ok_St_add hst p0 p1; rw [ef] at h9; exact h9), (by have h9 := mo_St_add hst p0 p1; rw [ef] at h9; exact h9)⟩ (hP.sub [0, 1] rfl) (hD.sub [0, 1] rfl rfl)
        · refine lv_aload_n hx hb d_St_add_73 rfl (lv_at hl 1 rfl) ?_
          refine va_get (D := D) (ci := 1) (C := R_St) (T := F_St) (N := 3) hx hb (kl_St hK.2) (fun _ h => h) hown hK.1 hP 0 rfl rfl 1 (by decide) (hw kw_38) (fun _ h9 => h9) rfl d_St_add_74 ?_
          refine lv_iload_n hx hb d_St_add_77 rfl (lv_at hl 0 rfl) ?_
          refine lv_iload_n hx hb d_St_add_78 rfl (lv_at hl 2 rfl) ?_
          refine va_iast hx hb hK.1 hP hD hS 1 1 rfl rfl ((st_in hst (by omega) c_6).1) d_St_add_79 (fun H locs hP hD hS => ?_)
          have hP : va_P D classes [(h0, .inr (1, [.int mo, .ref h1, .int st.2.2])), (h1, .inl (cI, st.1, .inl (upd st.2.1 (2 * st.2.2).toNatClampNeg p0)))] H := hP
          have hD : va_D A [(h0, .inr (1, [.int mo, .ref h1, .int st.2.2])), (h1, .inl (cI, st.1, .inl (upd st.2.1 (2 * st.2.2).toNatClampNeg p0)))] := hD
          refine lv_aload_n hx hb d_St_add_80 rfl (lv_at hl 1 rfl) ?_
          refine va_get (D := D) (ci := 1) (C := R_St) (T := F_St) (N := 3) hx hb (kl_St hK.2) (fun _ h => h) hown hK.1 hP 0 rfl rfl 1 (by decide) (hw kw_38) (fun _ h9 => h9) rfl d_St_add_81 ?_
          refine lv_iload_n hx hb d_St_add_84 rfl (lv_at hl 0 rfl) ?_
          refine lv_iconst (v := 1) hx hb d_St_add_85 (by decide) ?_
          refine lv_iadd hx hb d_St_add_86 ?_
          refine lv_iload_n hx hb d_St_add_87 rfl (lv_at hl 3 rfl) ?_
          refine va_iast hx hb hK.1 hP hD hS 1 1 rfl rfl ((st_in hst (by omega) c_6).2) d_St_add_88 (fun H locs hP hD hS => ?_)
          have hP : va_P D classes [(h0, .inr (1, [.int mo, .ref h1, .int st.2.2])), (h1, .inl (cI, st.1, .inl (upd (upd st.2.1 (2 * st.2.2).toNatClampNeg p0) ((2 * st.2.2) + 1).toNatClampNeg p1)))] H := hP
          have hD : va_D A [(h0, .inr (1, [.int mo, .ref h1, .int st.2.2])), (h1, .inl (cI, st.1, .inl (upd (upd st.2.1 (2 * st.2.2).toNatClampNeg p0) ((2 * st.2.2) + 1).toNatClampNeg p1)))] := hD
          refine lv_aload_n hx hb d_St_add_89 rfl (lv_at hl 1 rfl) ?_
          refine lv_dup hx hb d_St_add_90 rfl ?_
          refine va_get (D := D) (ci := 1) (C := R_St) (T := F_St) (N := 3) hx hb (kl_St hK.2) (fun _ h => h) hown hK.1 hP 0 rfl rfl 2 (by decide) (hw kw_39) (fun _ h9 => h9) rfl d_St_add_91 ?_
          refine lv_iconst (v := 1) hx hb d_St_add_94 (by decide) ?_
          refine lv_iadd hx hb d_St_add_95 ?_
          refine lv_topi (fun y2 e2 => ?_)
          refine va_put (D := D) (ci := 1) (v := .int y2) (ty := .int) (C := R_St) (T := F_St) (N := 3) hx hb (kl_St hK.2) (fun _ h => h) t_St t_St_ok n_St hown hK.1 hP hD hS 0 rfl rfl 2 (by decide) (hw kw_39) (fun _ h9 => h9) rfl (t_St_ok 2 (by decide)) rfl rfl (Nat.le_of_ble_eq_true rfl) d_St_add_96 (fun H locs hP hD hS => ?_)
          have hP : va_P D classes [(h0, .inr (1, [.int mo, .ref h1, .int y2])), (h1, .inl (cI, st.1, .inl (upd (upd st.2.1 (2 * st.2.2).toNatClampNeg p0) ((2 * st.2.2) + 1).toNatClampNeg p1)))] H := hP
          have hD : va_D A [(h0, .inr (1, [.int mo, .ref h1, .int y2])), (h1, .inl (cI, st.1, .inl (upd (upd st.2.1 (2 * st.2.2).toNatClampNeg p0) ((2 * st.2.2) + 1).toNatClampNeg p1)))] := hD
          have ef : M_St_add mo st p0 p1 = (st.1, (upd (upd st.2.1 (2 * st.2.2).toNatClampNeg p0) ((2 * st.2.2) + 1).toNatClampNeg p1), y2) := by unfold M_St_add; (try dsimp only); rw [if_neg c_1]; rw [if_pos c_4]; rw [if_neg c_5]; rw [if_neg c_6]; (try rw [← e2])
          exact ct_vret hx hb hr hlocks d_St_add_99 ⟨Nat.zero_le _, Nat.zero_le _⟩ hQ hAe hS (h1, (st.1, (upd (upd st.2.1 (2 * st.2.2).toNatClampNeg p0) ((2 * st.2.2) + 1).toNatClampNeg p1), y2)) rfl ⟨ef.symm, (by have h9 := ok_St_add hst p0 p1; rw [ef] at h9; exact h9), (by have h9 := mo_St_add hst p0 p1; rw [ef] at h9; exact h9)⟩ (hP.sub [0, 1] rfl) (hD.sub [0, 1] rfl rfl)
    · refine lv_aload_n hx hb d_St_add_25 rfl (lv_at hl 0 rfl) ?_
      refine lv_aload_n hx hb d_St_add_26 rfl (lv_at hl 0 rfl) ?_
      refine va_get (D := D) (ci := 1) (C := R_St) (T := F_St) (N := 3) hx hb (kl_St hK.2) (fun _ h => h) hown hK.1 hP 0 rfl rfl 1 (by decide) (hw kw_38) (fun _ h9 => h9) rfl d_St_add_27 ?_
      refine lv_iconst (v := 2) hx hb d_St_add_30 (by decide) ?_
      refine lv_iconst (v := 2) hx hb d_St_add_31 (by decide) ?_
      refine lv_aload_n hx hb d_St_add_32 rfl (lv_at hl 0 rfl) ?_
      refine va_get (D := D) (ci := 1) (C := R_St) (T := F_St) (N := 3) hx hb (kl_St hK.2) (fun _ h => h) hown hK.1 hP 0 rfl rfl 2 (by decide) (hw kw_39) (fun _ h9 => h9) rfl d_St_add_33 ?_
      refine lv_imul hx hb d_St_add_36 ?_
      refine lv_aload_n hx hb d_St_add_37 rfl (lv_at hl 0 rfl) ?_
      refine va_get (D := D) (ci := 1) (C := R_St) (T := F_St) (N := 3) hx hb (kl_St hK.2) (fun _ h => h) hown hK.1 hP 0 rfl rfl 0 (by decide) (hw kw_40) (fun _ h9 => h9) rfl d_St_add_38 ?_
      refine va_mmin hx hb (hml.trans hl.1.symm) hown (hw kw_41) (hw kw_15) (hw kw_16) (hw kw_17) (Nat.le_of_ble_eq_true rfl) (Nat.le_of_ble_eq_true rfl) (Nat.le_of_ble_eq_true rfl)  (Nat.le_of_ble_eq_true rfl) d_St_add_41 ?_
      refine lv_imul hx hb d_St_add_44 ?_
      obtain ⟨hN0, hN1, hN2, hN3⟩ := st_grow hst c_1 c_4
      refine ct_fin (wr := [(h0, .inr (1, [.int mo, .ref h1, .int st.2.2]))]) (ct_runS (n := 2) (As := [.ref h1, .int (2 * (if mo < (2 * st.2.2) then mo else (2 * st.2.2)))]) (rest := [.ref h0]) hH (c_copyOfI h1 st.1 st.2.1 (2 * (if mo < (2 * st.2.2) then mo else (2 * st.2.2))) (by omega) (fun _ => rfl) hN0 (by omega) hN3 _) ⟨cal_copyOfI, ⟨Nat.le_of_ble_eq_true rfl, Nat.le_of_ble_eq_true rfl⟩, (Nat.le_of_ble_eq_true rfl), (by show 0 + (2 * (if mo < (2 * st.2.2) then mo else (2 * st.2.2))).toNatClampNeg ≤ 65536; omega)⟩ kw_42 kw_43 kw_20 kw_44 (hP.sub (ws' := [(h1, .inl (cI, st.1, .inl st.2.1))]) [1] rfl) (hD.sub (ws' := [(h1, .inl (cI, st.1, .inl st.2.1))]) [1] rfl rfl) rfl hl.1 (Nat.le_of_ble_eq_true rfl) d_St_add_45) hP hD hS hA [1] [0] rfl rfl rfl (by decide) (fun qn H locs hp hP hD hS => ?_)
      have hP : va_P D classes [(h0, .inr (1, [.int mo, .ref h1, .int st.2.2])), (h1, .inl (cI, st.1, .inl st.2.1)), (qn, .inl (cI, (2 * (if mo < (2 * st.2.2) then mo else (2 * st.2.2))).toNatClampNeg, .inl (cpyN st.2.1 st.1 (2 * (if mo < (2 * st.2.2) then mo else (2 * st.2.2))))))] H := hP
      have hD : va_D A [(h0, .inr (1, [.int mo, .ref h1, .int st.2.2])), (h1, .inl (cI, st.1, .inl st.2.1)), (qn, .inl (cI, (2 * (if mo < (2 * st.2.2) then mo else (2 * st.2.2))).toNatClampNeg, .inl (cpyN st.2.1 st.1 (2 * (if mo < (2 * st.2.2) then mo else (2 * st.2.2))))))] := hD
      refine W.widen (k := 1) (n := (2 * (if mo < (2 * st.2.2) then mo else (2 * st.2.2))).toNatClampNeg) (by decide) (by omega) ?_
      refine W.eq (g2 := F0 m 48 ls [.ref qn, .ref h0]) rfl ?_
      refine va_put (D := D) (ci := 1) (v := .ref qn) (ty := .array .int) (C := R_St) (T := F_St) (N := 3) hx hb (kl_St hK.2) (fun _ h => h) t_St t_St_ok n_St hown hK.1 hP hD hS 0 rfl rfl 1 (by decide) (hw kw_38) (fun _ h9 => h9) rfl (t_St_ok 1 (by decide)) rfl rfl (Nat.le_of_ble_eq_true rfl) d_St_add_48 (fun H locs hP hD hS => ?_)
      have hP : va_P D classes [(h0, .inr (1, [.int mo, .ref qn, .int st.2.2])), (h1, .inl (cI, st.1, .inl st.2.1)), (qn, .inl (cI, (2 * (if mo < (2 * st.2.2) then mo else (2 * st.2.2))).toNatClampNeg, .inl (cpyN st.2.1 st.1 (2 * (if mo < (2 * st.2.2) then mo else (2 * st.2.2))))))] H := hP
      have hD : va_D A [(h0, .inr (1, [.int mo, .ref qn, .int st.2.2])), (h1, .inl (cI, st.1, .inl st.2.1)), (qn, .inl (cI, (2 * (if mo < (2 * st.2.2) then mo else (2 * st.2.2))).toNatClampNeg, .inl (cpyN st.2.1 st.1 (2 * (if mo < (2 * st.2.2) then mo else (2 * st.2.2))))))] := hD
      refine lv_iconst (v := 2) hx hb d_St_add_51 (by decide) ?_
      refine lv_aload_n hx hb d_St_add_52 rfl (lv_at hl 0 rfl) ?_
      refine va_get (D := D) (ci := 1) (C := R_St) (T := F_St) (N := 3) hx hb (kl_St hK.2) (fun _ h => h) hown hK.1 hP 0 rfl rfl 2 (by decide) (hw kw_39) (fun _ h9 => h9) rfl d_St_add_53 ?_
      refine lv_imul hx hb d_St_add_56 ?_
      refine lv_istore_n (lv' := [(3, .int (2 * st.2.2)), (0, .ref h0), (1, .int p0), (2, .int p1)]) hx hb d_St_add_57 rfl hl (by decide) rfl (fun ls hl => ?_)
      refine lv_iload_n hx hb d_St_add_58 rfl (lv_at hl 0 rfl) ?_
      refine lv_if_lt (tgt := 99) hx hb d_St_add_59 (by decide) (fun c_7 => ?_) (fun c_7 => ?_)
      · have ef : M_St_add mo st p0 p1 = ((2 * (if mo < (2 * st.2.2) then mo else (2 * st.2.2))).toNatClampNeg, (cpyN st.2.1 st.1 (2 * (if mo < (2 * st.2.2) then mo else (2 * st.2.2)))), st.2.2) := by unfold M_St_add; (try dsimp only); rw [if_neg c_1]; rw [if_neg c_4]; rw [if_pos c_7]
        exact ct_vret hx hb hr hlocks d_St_add_99 ⟨by rw [ef]; show 1 ≤ gC 32 st.1 (2 * (if mo < (2 * st.2.2) then mo else (2 * st.2.2))).toNatClampNeg; rw [hN1]; simp only [gC]; omega, by rw [ef]; show (2 * (if mo < (2 * st.2.2) then mo else (2 * st.2.2))).toNatClampNeg ≤ gS st.1 (2 * (if mo < (2 * st.2.2) then mo else (2 * st.2.2))).toNatClampNeg; rw [hN1]; simp only [gS]; omega⟩ hQ hAe hS (qn, ((2 * (if mo < (2 * st.2.2) then mo else (2 * st.2.2))).toNatClampNeg, (cpyN st.2.1 st.1 (2 * (if mo < (2 * st.2.2) then mo else (2 * st.2.2)))), st.2.2)) rfl ⟨ef.symm, (by have h9 := ok_St_add hst p0 p1; rw [ef] at h9; exact h9), (by have h9 := mo_St_add hst p0 p1; rw [ef] at h9; exact h9)⟩ (hP.sub [0, 2] rfl) (hD.sub [0, 2] rfl rfl)
      · refine lv_iload_n hx hb d_St_add_62 rfl (lv_at hl 0 rfl) ?_
        refine lv_iconst (v := 1) hx hb d_St_add_63 (by decide) ?_
        refine lv_iadd hx hb d_St_add_64 ?_
        refine lv_aload_n hx hb d_St_add_65 rfl (lv_at hl 1 rfl) ?_
        refine va_get (D := D) (ci := 1) (C := R_St) (T := F_St) (N := 3) hx hb (kl_St hK.2) (fun _ h => h) hown hK.1 hP 0 rfl rfl 1 (by decide) (hw kw_38) (fun _ h9 => h9) rfl d_St_add_66 ?_
        refine va_alen (v := nI ((2 * (if mo < (2 * st.2.2) then mo else (2 * st.2.2))).toNatClampNeg)) hx hb hK.1 hP 2 1 rfl rfl rfl d_St_add_69 ?_
        refine lv_icmp_ge (tgt := 99) hx hb d_St_add_70 (by decide) (fun c_8 => ?_) (fun c_8 => ?_)
        · have ef : M_St_add mo st p0 p1 = ((2 * (if mo < (2 * st.2.2) then mo else (2 * st.2.2))).toNatClampNeg, (cpyN st.2.1 st.1 (2 * (if mo < (2 * st.2.2) then mo else (2 * st.2.2)))), st.2.2) := by unfold M_St_add; (try dsimp only); rw [if_neg c_1]; rw [if_neg c_4]; rw [if_neg c_7]; rw [if_pos c_8]
          exact ct_vret hx hb hr hlocks d_St_add_99 ⟨by rw [ef]; show 1 ≤ gC 32 st.1 (2 * (if mo < (2 * st.2.2) then mo else (2 * st.2.2))).toNatClampNeg; rw [hN1]; simp only [gC]; omega, by rw [ef]; show (2 * (if mo < (2 * st.2.2) then mo else (2 * st.2.2))).toNatClampNeg ≤ gS st.1 (2 * (if mo < (2 * st.2.2) then mo else (2 * st.2.2))).toNatClampNeg; rw [hN1]; simp only [gS]; omega⟩ hQ hAe hS (qn, ((2 * (if mo < (2 * st.2.2) then mo else (2 * st.2.2))).toNatClampNeg, (cpyN st.2.1 st.1 (2 * (if mo < (2 * st.2.2) then mo else (2 * st.2.2)))), st.2.2)) rfl ⟨ef.symm, (by have h9 := ok_St_add hst p0 p1; rw [ef] at h9; exact h9), (by have h9 := mo_St_add hst p0 p1; rw [ef] at h9; exact h9)⟩ (hP.sub [0, 2] rfl) (hD.sub [0, 2] rfl rfl)
        · refine lv_aload_n hx hb d_St_add_73 rfl (lv_at hl 1 rfl) ?_
          refine va_get (D := D) (ci := 1) (C := R_St) (T := F_St) (N := 3) hx hb (kl_St hK.2) (fun _ h => h) hown hK.1 hP 0 rfl rfl 1 (by decide) (hw kw_38) (fun _ h9 => h9) rfl d_St_add_74 ?_
          refine lv_iload_n hx hb d_St_add_77 rfl (lv_at hl 0 rfl) ?_
          refine lv_iload_n hx hb d_St_add_78 rfl (lv_at hl 2 rfl) ?_
          refine va_iast hx hb hK.1 hP hD hS 2 1 rfl rfl ((st_in hst (by omega) c_8).1) d_St_add_79 (fun H locs hP hD hS => ?_)
          have hP : va_P D classes [(h0, .inr (1, [.int mo, .ref qn, .int st.2.2])), (h1, .inl (cI, st.1, .inl st.2.1)), (qn, .inl (cI, (2 * (if mo < (2 * st.2.2) then mo else (2 * st.2.2))).toNatClampNeg, .inl (upd (cpyN st.2.1 st.1 (2 * (if mo < (2 * st.2.2) then mo else (2 * st.2.2)))) (2 * st.2.2).toNatClampNeg p0)))] H := hP
          have hD : va_D A [(h0, .inr (1, [.int mo, .ref qn, .int st.2.2])), (h1, .inl (cI, st.1, .inl st.2.1)), (qn, .inl (cI, (2 * (if mo < (2 * st.2.2) then mo else (2 * st.2.2))).toNatClampNeg, .inl (upd (cpyN st.2.1 st.1 (2 * (if mo < (2 * st.2.2) then mo else (2 * st.2.2)))) (2 * st.2.2).toNatClampNeg p0)))] := hD
          refine lv_aload_n hx hb d_St_add_80 rfl (lv_at hl 1 rfl) ?_
          refine va_get (D := D) (ci := 1) (C := R_St) (T := F_St) (N := 3) hx hb (kl_St hK.2) (fun _ h => h) hown hK.1 hP 0 rfl rfl 1 (by decide) (hw kw_38) (fun _ h9 => h9) rfl d_St_add_81 ?_
          refine lv_iload_n hx hb d_St_add_84 rfl (lv_at hl 0 rfl) ?_
          refine lv_iconst (v := 1) hx hb d_St_add_85 (by decide) ?_
          refine lv_iadd hx hb d_St_add_86 ?_
          refine lv_iload_n hx hb d_St_add_87 rfl (lv_at hl 3 rfl) ?_
          refine va_iast hx hb hK.1 hP hD hS 2 1 rfl rfl ((st_in hst (by omega) c_8).2) d_St_add_88 (fun H locs hP hD hS => ?_)
          have hP : va_P D classes [(h0, .inr (1, [.int mo, .ref qn, .int st.2.2])), (h1, .inl (cI, st.1, .inl st.2.1)), (qn, .inl (cI, (2 * (if mo < (2 * st.2.2) then mo else (2 * st.2.2))).toNatClampNeg, .inl (upd (upd (cpyN st.2.1 st.1 (2 * (if mo < (2 * st.2.2) then mo else (2 * st.2.2)))) (2 * st.2.2).toNatClampNeg p0) ((2 * st.2.2) + 1).toNatClampNeg p1)))] H := hP
          have hD : va_D A [(h0, .inr (1, [.int mo, .ref qn, .int st.2.2])), (h1, .inl (cI, st.1, .inl st.2.1)), (qn, .inl (cI, (2 * (if mo < (2 * st.2.2) then mo else (2 * st.2.2))).toNatClampNeg, .inl (upd (upd (cpyN st.2.1 st.1 (2 * (if mo < (2 * st.2.2) then mo else (2 * st.2.2)))) (2 * st.2.2).toNatClampNeg p0) ((2 * st.2.2) + 1).toNatClampNeg p1)))] := hD
          refine lv_aload_n hx hb d_St_add_89 rfl (lv_at hl 1 rfl) ?_
          refine lv_dup hx hb d_St_add_90 rfl ?_
          refine va_get (D := D) (ci := 1) (C := R_St) (T := F_St) (N := 3) hx hb (kl_St hK.2) (fun _ h => h) hown hK.1 hP 0 rfl rfl 2 (by decide) (hw kw_39) (fun _ h9 => h9) rfl d_St_add_91 ?_
          refine lv_iconst (v := 1) hx hb d_St_add_94 (by decide) ?_
          refine lv_iadd hx hb d_St_add_95 ?_
          refine lv_topi (fun y3 e3 => ?_)
          refine va_put (D := D) (ci := 1) (v := .int y3) (ty := .int) (C := R_St) (T := F_St) (N := 3) hx hb (kl_St hK.2) (fun _ h => h) t_St t_St_ok n_St hown hK.1 hP hD hS 0 rfl rfl 2 (by decide) (hw kw_39) (fun _ h9 => h9) rfl (t_St_ok 2 (by decide)) rfl rfl (Nat.le_of_ble_eq_true rfl) d_St_add_96 (fun H locs hP hD hS => ?_)
          have hP : va_P D classes [(h0, .inr (1, [.int mo, .ref qn, .int y3])), (h1, .inl (cI, st.1, .inl st.2.1)), (qn, .inl (cI, (2 * (if mo < (2 * st.2.2) then mo else (2 * st.2.2))).toNatClampNeg, .inl (upd (upd (cpyN st.2.1 st.1 (2 * (if mo < (2 * st.2.2) then mo else (2 * st.2.2)))) (2 * st.2.2).toNatClampNeg p0) ((2 * st.2.2) + 1).toNatClampNeg p1)))] H := hP
          have hD : va_D A [(h0, .inr (1, [.int mo, .ref qn, .int y3])), (h1, .inl (cI, st.1, .inl st.2.1)), (qn, .inl (cI, (2 * (if mo < (2 * st.2.2) then mo else (2 * st.2.2))).toNatClampNeg, .inl (upd (upd (cpyN st.2.1 st.1 (2 * (if mo < (2 * st.2.2) then mo else (2 * st.2.2)))) (2 * st.2.2).toNatClampNeg p0) ((2 * st.2.2) + 1).toNatClampNeg p1)))] := hD
          have ef : M_St_add mo st p0 p1 = ((2 * (if mo < (2 * st.2.2) then mo else (2 * st.2.2))).toNatClampNeg, (upd (upd (cpyN st.2.1 st.1 (2 * (if mo < (2 * st.2.2) then mo else (2 * st.2.2)))) (2 * st.2.2).toNatClampNeg p0) ((2 * st.2.2) + 1).toNatClampNeg p1), y3) := by unfold M_St_add; (try dsimp only); rw [if_neg c_1]; rw [if_neg c_4]; rw [if_neg c_7]; rw [if_neg c_8]; (try rw [← e3])
          exact ct_vret hx hb hr hlocks d_St_add_99 ⟨by rw [ef]; show 1 ≤ gC 32 st.1 (2 * (if mo < (2 * st.2.2) then mo else (2 * st.2.2))).toNatClampNeg; rw [hN1]; simp only [gC]; omega, by rw [ef]; show (2 * (if mo < (2 * st.2.2) then mo else (2 * st.2.2))).toNatClampNeg ≤ gS st.1 (2 * (if mo < (2 * st.2.2) then mo else (2 * st.2.2))).toNatClampNeg; rw [hN1]; simp only [gS]; omega⟩ hQ hAe hS (qn, ((2 * (if mo < (2 * st.2.2) then mo else (2 * st.2.2))).toNatClampNeg, (upd (upd (cpyN st.2.1 st.1 (2 * (if mo < (2 * st.2.2) then mo else (2 * st.2.2)))) (2 * st.2.2).toNatClampNeg p0) ((2 * st.2.2) + 1).toNatClampNeg p1), y3)) rfl ⟨ef.symm, (by have h9 := ok_St_add hst p0 p1; rw [ef] at h9; exact h9), (by have h9 := mo_St_add hst p0 p1; rw [ef] at h9; exact h9)⟩ (hP.sub [0, 2] rfl) (hD.sub [0, 2] rfl rfl)
set_option maxHeartbeats 4000000 in
set_option maxRecDepth 100000 in
theorem c_Mk_addShort {l : Launch} {D : va_G} {cB cI cJ : ClassId} (h0 h1 h2 h3 h4 : Nat) (mk : Nat → Int32) (ro : RowS) (st : RowS) (hro : RowOK ro) (hst : StOK 512 st) (p0 : Int32) : Ct classes BW l D (TY cB cI cJ) y_Mk_addShort b_Mk_addShort 2 none ({ frames := 4, cells := 601, slots := 235536, locals := 128 } : Room) [.ref h0, .int p0] [(h0, .inr (2, [.ref h1, .ref h3, .int (mk 0), .int (mk 1), .int (mk 2), .int (mk 3), .int (mk 4), .int (mk 5), .int (mk 6), .int (mk 7), .int (mk 8), .int (mk 9), .int (mk 10), .int (mk 11)])), (h1, .inr (0, [.ref h2, .int ro.2.2])), (h2, .inl (cB, ro.1, .inl ro.2.1)), (h3, .inr (1, [.int 512, .ref h4, .int st.2.2])), (h4, .inl (cI, st.1, .inl st.2.1))] (fun u : Nat × RowS => u.2 = M_Mk_addShort mk ro p0 ∧ RowOK u.2 ∧ ro.1 ≤ u.2.1) (fun u => none) (fun u => [(h0, .inr (2, [.ref h1, .ref h3, .int (mk 0), .int (mk 1), .int (mk 2), .int (mk 3), .int (mk 4), .int (mk 5), .int (mk 6), .int (mk 7), .int (mk 8), .int (mk 9), .int (mk 10), .int (mk 11)])), (h1, .inr (0, [.ref u.1, .int u.2.2.2])), (u.1, .inl (cB, u.2.1, .inl u.2.2.1)), (h3, .inr (1, [.int 512, .ref h4, .int st.2.2])), (h4, .inl (cI, st.1, .inl st.2.1))]) (gC 1024 ro.1 (M_Mk_addShort mk ro p0).1) (gS ro.1 (M_Mk_addShort mk ro p0).1) := by
  refine Ct.intro (by decide +kernel) (Nat.le_of_ble_eq_true rfl) ?_
  intro p e s m below meth c hx hb hr hml hlocks hnm hown hK A hAe hA hS hP hD ls hl Q hQ
  have hown : s.vm.findClass "PictureFile$Maker" = some m.cls := hown
  have hH : Hold classes BW D (TY cB cI cJ) p s m c b_Mk_addShort 2 "PictureFile$Maker" := ⟨bw_ok, hx, hb, hml, hown, hK⟩
  have hw : ∀ {w : Cond}, w ∈ BW → w.before ([.ref h0, .int p0] : List Value).toArray s = true := fun h => Wd.at bw_ok hK.2 h
  have hl : lv_has ls 2 [(0, .ref h0), (1, .int p0)] := hl
  have bo0ro := RowOK.le hro
  have bo0st := StOK.le hst
  refine lv_aload_n hx hb d_Mk_addShort_0 rfl (lv_at hl 0 rfl) ?_
  refine va_get (D := D) (ci := 2) (C := R_Mk) (T := F_Mk) (N := 14) hx hb (kl_Mk hK.2) (fun _ h => h) hown hK.1 hP 0 rfl rfl 0 (by decide) (hw kw_45) (fun _ h9 => h9) rfl d_Mk_addShort_1 ?_
  refine lv_iload_n hx hb d_Mk_addShort_4 rfl (lv_at hl 1 rfl) ?_
  refine lv_i2l hx hb d_Mk_addShort_5 rfl ?_
  refine lv_iconst (v := 2) hx hb d_Mk_addShort_6 (by decide) ?_
  refine lv_aload_n hx hb d_Mk_addShort_7 rfl (lv_at hl 0 rfl) ?_
  refine va_get (D := D) (ci := 2) (C := R_Mk) (T := F_Mk) (N := 14) hx hb (kl_Mk hK.2) (fun _ h => h) hown hK.1 hP 0 rfl rfl 4 (by decide) (hw kw_46) (fun _ h9 => h9) rfl d_Mk_addShort_8 ?_
  refine ct_fin (wr := [(h0, .inr (2, [.ref h1, .ref h3, .int (mk 0), .int (mk 1), .int (mk 2), .int (mk 3), .int (mk 4), .int (mk 5), .int (mk 6), .int (mk 7), .int (mk 8), .int (mk 9), .int (mk 10), .int (mk 11)])), (h3, .inr (1, [.int 512, .ref h4, .int st.2.2])), (h4, .inl (cI, st.1, .inl st.2.1))]) (ct_runVN (host := "PictureFile") (n := 3) (C := R_Row) (b := h1) (As := [.long p0.toInt64, .int 2, .int (mk 2)]) (rest := []) hH (c_Row_append h1 h2 ro hro p0.toInt64 2 (mk 2) _) ⟨cal_Row_append, ⟨Nat.le_of_ble_eq_true rfl, Nat.le_of_ble_eq_true rfl⟩, (Nat.le_of_ble_eq_true rfl), (Nat.le_of_ble_eq_true rfl)⟩ kw_47 kw_48 kw_24 kw_49 kw_50 (va_recv hK.1 hP (ci := 0) (q0 := 1) rfl rfl) (hP.sub (ws' := [(h1, .inr (0, [.ref h2, .int ro.2.2])), (h2, .inl (cB, ro.1, .inl ro.2.1))]) [1, 2] rfl) (hD.sub (ws' := [(h1, .inr (0, [.ref h2, .int ro.2.2])), (h2, .inl (cB, ro.1, .inl ro.2.1))]) [1, 2] rfl rfl) rfl hl.1 (Nat.le_of_ble_eq_true rfl) d_Mk_addShort_11) hP hD hS hA [1, 2] [0, 3, 4] rfl rfl rfl (by decide) (fun u H locs hp hP hD hS => ?_)
  obtain ⟨q1ro, x1⟩ := u
  obtain ⟨e1, ok1ro, mo1ro⟩ := hp
  try dsimp only at e1 ok1ro mo1ro
  have bo1ro := RowOK.le ok1ro
  have hP : va_P D classes [(h0, .inr (2, [.ref h1, .ref h3, .int (mk 0), .int (mk 1), .int (mk 2), .int (mk 3), .int (mk 4), .int (mk 5), .int (mk 6), .int (mk 7), .int (mk 8), .int (mk 9), .int (mk 10), .int (mk 11)])), (h3, .inr (1, [.int 512, .ref h4, .int st.2.2])), (h4, .inl (cI, st.1, .inl st.2.1)), (h1, .inr (0, [.ref q1ro, .int x1.2.2])), (q1ro, .inl (cB, x1.1, .inl x1.2.1))] H := hP
  have hD : va_D A [(h0, .inr (2, [.ref h1, .ref h3, .int (mk 0), .int (mk 1), .int (mk 2), .int (mk 3), .int (mk 4), .int (mk 5), .int (mk 6), .int (mk 7), .int (mk 8), .int (mk 9), .int (mk 10), .int (mk 11)])), (h3, .inr (1, [.int 512, .ref h4, .int st.2.2])), (h4, .inl (cI, st.1, .inl st.2.1)), (h1, .inr (0, [.ref q1ro, .int x1.2.2])), (q1ro, .inl (cB, x1.1, .inl x1.2.1))] := hD
  refine W.widen (k := gC 1024 ro.1 x1.1) (n := gS ro.1 x1.1) (by rw [← e1]; simp only [gC]; omega) (by rw [← e1]; simp only [gS]; omega) ?_
  refine W.eq (g2 := F0 m 14 ls []) rfl ?_
  have ef : M_Mk_addShort mk ro p0 = x1 := by unfold M_Mk_addShort; (try dsimp only); (try rw [← e1])
  exact ct_vret hx hb hr hlocks d_Mk_addShort_14 ⟨by rw [ef]; simp only [gC]; omega, by rw [ef]; simp only [gS]; omega⟩ hQ hAe hS (q1ro, x1) rfl ⟨ef.symm, ok1ro, (by show ro.1 ≤ x1.1; omega)⟩ (hP.sub [0, 3, 4, 1, 2] rfl) (hD.sub [0, 3, 4, 1, 2] rfl rfl)
set_option maxHeartbeats 4000000 in
set_option maxRecDepth 100000 in
theorem c_Mk_addLong {l : Launch} {D : va_G} {cB cI cJ : ClassId} (h0 h1 h2 h3 h4 : Nat) (mk : Nat → Int32) (ro : RowS) (st : RowS) (hro : RowOK ro) (hst : StOK 512 st) (p0 : Int32) : Ct classes BW l D (TY cB cI cJ) y_Mk_addLong b_Mk_addLong 2 none ({ frames := 4, cells := 601, slots := 235536, locals := 128 } : Room) [.ref h0, .int p0] [(h0, .inr (2, [.ref h1, .ref h3, .int (mk 0), .int (mk 1), .int (mk 2), .int (mk 3), .int (mk 4), .int (mk 5), .int (mk 6), .int (mk 7), .int (mk 8), .int (mk 9), .int (mk 10), .int (mk 11)])), (h1, .inr (0, [.ref h2, .int ro.2.2])), (h2, .inl (cB, ro.1, .inl ro.2.1)), (h3, .inr (1, [.int 512, .ref h4, .int st.2.2])), (h4, .inl (cI, st.1, .inl st.2.1))] (fun u : Nat × RowS => u.2 = M_Mk_addLong mk ro p0 ∧ RowOK u.2 ∧ ro.1 ≤ u.2.1) (fun u => none) (fun u => [(h0, .inr (2, [.ref h1, .ref h3, .int (mk 0), .int (mk 1), .int (mk 2), .int (mk 3), .int (mk 4), .int (mk 5), .int (mk 6), .int (mk 7), .int (mk 8), .int (mk 9), .int (mk 10), .int (mk 11)])), (h1, .inr (0, [.ref u.1, .int u.2.2.2])), (u.1, .inl (cB, u.2.1, .inl u.2.2.1)), (h3, .inr (1, [.int 512, .ref h4, .int st.2.2])), (h4, .inl (cI, st.1, .inl st.2.1))]) (gC 1024 ro.1 (M_Mk_addLong mk ro p0).1) (gS ro.1 (M_Mk_addLong mk ro p0).1) := by
  refine Ct.intro (by decide +kernel) (Nat.le_of_ble_eq_true rfl) ?_
  intro p e s m below meth c hx hb hr hml hlocks hnm hown hK A hAe hA hS hP hD ls hl Q hQ
  have hown : s.vm.findClass "PictureFile$Maker" = some m.cls := hown
  have hH : Hold classes BW D (TY cB cI cJ) p s m c b_Mk_addLong 2 "PictureFile$Maker" := ⟨bw_ok, hx, hb, hml, hown, hK⟩
  have hw : ∀ {w : Cond}, w ∈ BW → w.before ([.ref h0, .int p0] : List Value).toArray s = true := fun h => Wd.at bw_ok hK.2 h
  have hl : lv_has ls 2 [(0, .ref h0), (1, .int p0)] := hl
  have bo0ro := RowOK.le hro
  have bo0st := StOK.le hst
  refine lv_aload_n hx hb d_Mk_addLong_0 rfl (lv_at hl 0 rfl) ?_
  refine va_get (D := D) (ci := 2) (C := R_Mk) (T := F_Mk) (N := 14) hx hb (kl_Mk hK.2) (fun _ h => h) hown hK.1 hP 0 rfl rfl 0 (by decide) (hw kw_45) (fun _ h9 => h9) rfl d_Mk_addLong_1 ?_
  refine lv_iload_n hx hb d_Mk_addLong_4 rfl (lv_at hl 1 rfl) ?_
  refine lv_i2l hx hb d_Mk_addLong_5 rfl ?_
  refine lv_iconst (v := 4) hx hb d_Mk_addLong_6 (by decide) ?_
  refine lv_aload_n hx hb d_Mk_addLong_7 rfl (lv_at hl 0 rfl) ?_
  refine va_get (D := D) (ci := 2) (C := R_Mk) (T := F_Mk) (N := 14) hx hb (kl_Mk hK.2) (fun _ h => h) hown hK.1 hP 0 rfl rfl 4 (by decide) (hw kw_46) (fun _ h9 => h9) rfl d_Mk_addLong_8 ?_
  refine ct_fin (wr := [(h0, .inr (2, [.ref h1, .ref h3, .int (mk 0), .int (mk 1), .int (mk 2), .int (mk 3), .int (mk 4), .int (mk 5), .int (mk 6), .int (mk 7), .int (mk 8), .int (mk 9), .int (mk 10), .int (mk 11)])), (h3, .inr (1, [.int 512, .ref h4, .int st.2.2])), (h4, .inl (cI, st.1, .inl st.2.1))]) (ct_runVN (host := "PictureFile") (n := 3) (C := R_Row) (b := h1) (As := [.long p0.toInt64, .int 4, .int (mk 2)]) (rest := []) hH (c_Row_append h1 h2 ro hro p0.toInt64 4 (mk 2) _) ⟨cal_Row_append, ⟨Nat.le_of_ble_eq_true rfl, Nat.le_of_ble_eq_true rfl⟩, (Nat.le_of_ble_eq_true rfl), (Nat.le_of_ble_eq_true rfl)⟩ kw_47 kw_48 kw_24 kw_49 kw_50 (va_recv hK.1 hP (ci := 0) (q0 := 1) rfl rfl) (hP.sub (ws' := [(h1, .inr (0, [.ref h2, .int ro.2.2])), (h2, .inl (cB, ro.1, .inl ro.2.1))]) [1, 2] rfl) (hD.sub (ws' := [(h1, .inr (0, [.ref h2, .int ro.2.2])), (h2, .inl (cB, ro.1, .inl ro.2.1))]) [1, 2] rfl rfl) rfl hl.1 (Nat.le_of_ble_eq_true rfl) d_Mk_addLong_11) hP hD hS hA [1, 2] [0, 3, 4] rfl rfl rfl (by decide) (fun u H locs hp hP hD hS => ?_)
  obtain ⟨q1ro, x1⟩ := u
  obtain ⟨e1, ok1ro, mo1ro⟩ := hp
  try dsimp only at e1 ok1ro mo1ro
  have bo1ro := RowOK.le ok1ro
  have hP : va_P D classes [(h0, .inr (2, [.ref h1, .ref h3, .int (mk 0), .int (mk 1), .int (mk 2), .int (mk 3), .int (mk 4), .int (mk 5), .int (mk 6), .int (mk 7), .int (mk 8), .int (mk 9), .int (mk 10), .int (mk 11)])), (h3, .inr (1, [.int 512, .ref h4, .int st.2.2])), (h4, .inl (cI, st.1, .inl st.2.1)), (h1, .inr (0, [.ref q1ro, .int x1.2.2])), (q1ro, .inl (cB, x1.1, .inl x1.2.1))] H := hP
  have hD : va_D A [(h0, .inr (2, [.ref h1, .ref h3, .int (mk 0), .int (mk 1), .int (mk 2), .int (mk 3), .int (mk 4), .int (mk 5), .int (mk 6), .int (mk 7), .int (mk 8), .int (mk 9), .int (mk 10), .int (mk 11)])), (h3, .inr (1, [.int 512, .ref h4, .int st.2.2])), (h4, .inl (cI, st.1, .inl st.2.1)), (h1, .inr (0, [.ref q1ro, .int x1.2.2])), (q1ro, .inl (cB, x1.1, .inl x1.2.1))] := hD
  refine W.widen (k := gC 1024 ro.1 x1.1) (n := gS ro.1 x1.1) (by rw [← e1]; simp only [gC]; omega) (by rw [← e1]; simp only [gS]; omega) ?_
  refine W.eq (g2 := F0 m 14 ls []) rfl ?_
  have ef : M_Mk_addLong mk ro p0 = x1 := by unfold M_Mk_addLong; (try dsimp only); (try rw [← e1])
  exact ct_vret hx hb hr hlocks d_Mk_addLong_14 ⟨by rw [ef]; simp only [gC]; omega, by rw [ef]; simp only [gS]; omega⟩ hQ hAe hS (q1ro, x1) rfl ⟨ef.symm, ok1ro, (by show ro.1 ≤ x1.1; omega)⟩ (hP.sub [0, 3, 4, 1, 2] rfl) (hD.sub [0, 3, 4, 1, 2] rfl rfl)
set_option maxHeartbeats 4000000 in
set_option maxRecDepth 100000 in
theorem c_Mk_leavePage {l : Launch} {D : va_G} {cB cI cJ : ClassId} (h0 h1 h2 h3 h4 : Nat) (mk : Nat → Int32) (ro : RowS) (st : RowS) (hro : RowOK ro) (hst : StOK 512 st) : Ct classes BW l D (TY cB cI cJ) y_Mk_leavePage b_Mk_leavePage 1 none ({ frames := 0, cells := 0, slots := 0, locals := 0 } : Room) [.ref h0] [(h0, .inr (2, [.ref h1, .ref h3, .int (mk 0), .int (mk 1), .int (mk 2), .int (mk 3), .int (mk 4), .int (mk 5), .int (mk 6), .int (mk 7), .int (mk 8), .int (mk 9), .int (mk 10), .int (mk 11)])), (h1, .inr (0, [.ref h2, .int ro.2.2])), (h2, .inl (cB, ro.1, .inl ro.2.1)), (h3, .inr (1, [.int 512, .ref h4, .int st.2.2])), (h4, .inl (cI, st.1, .inl st.2.1))] (fun u : Nat × (Nat → Int32) × RowS => u.2 = M_Mk_leavePage mk st ∧ StOK 512 u.2.2 ∧ st.1 ≤ u.2.2.1) (fun u => none) (fun u => [(h0, .inr (2, [.ref h1, .ref h3, .int (u.2.1 0), .int (u.2.1 1), .int (u.2.1 2), .int (u.2.1 3), .int (u.2.1 4), .int (u.2.1 5), .int (u.2.1 6), .int (u.2.1 7), .int (u.2.1 8), .int (u.2.1 9), .int (u.2.1 10), .int (u.2.1 11)])), (h1, .inr (0, [.ref h2, .int ro.2.2])), (h2, .inl (cB, ro.1, .inl ro.2.1)), (h3, .inr (1, [.int 512, .ref u.1, .int u.2.2.2.2])), (u.1, .inl (cI, u.2.2.1, .inl u.2.2.2.1))]) (gC 32 st.1 (M_Mk_leavePage mk st).2.1) (gS st.1 (M_Mk_leavePage mk st).2.1) := by
  refine Ct.intro (by decide +kernel) (Nat.le_of_ble_eq_true rfl) ?_
  intro p e s m below meth c hx hb hr hml hlocks hnm hown hK A hAe hA hS hP hD ls hl Q hQ
  have hown : s.vm.findClass "PictureFile$Maker" = some m.cls := hown
  have hH : Hold classes BW D (TY cB cI cJ) p s m c b_Mk_leavePage 1 "PictureFile$Maker" := ⟨bw_ok, hx, hb, hml, hown, hK⟩
  have hw : ∀ {w : Cond}, w ∈ BW → w.before ([.ref h0] : List Value).toArray s = true := fun h => Wd.at bw_ok hK.2 h
  have hl : lv_has ls 1 [(0, .ref h0)] := hl
  have bo0ro := RowOK.le hro
  have bo0st := StOK.le hst
  refine lv_aload_n hx hb d_Mk_leavePage_0 rfl (lv_at hl 0 rfl) ?_
  refine lv_iconst (v := 0) hx hb d_Mk_leavePage_1 (by decide) ?_
  refine va_put (D := D) (ci := 2) (v := .int 0) (ty := .boolean) (C := R_Mk) (T := F_Mk) (N := 14) hx hb (kl_Mk hK.2) (fun _ h => h) t_Mk t_Mk_ok n_Mk hown hK.1 hP hD hS 0 rfl rfl 3 (by decide) (hw kw_51) (fun _ h9 => h9) rfl (t_Mk_ok 3 (by decide)) rfl rfl (Nat.le_of_ble_eq_true rfl) d_Mk_leavePage_2 (fun H locs hP hD hS => ?_)
  have hP : va_P D classes [(h0, .inr (2, [.ref h1, .ref h3, .int (mk 0), .int 0, .int (mk 2), .int (mk 3), .int (mk 4), .int (mk 5), .int (mk 6), .int (mk 7), .int (mk 8), .int (mk 9), .int (mk 10), .int (mk 11)])), (h1, .inr (0, [.ref h2, .int ro.2.2])), (h2, .inl (cB, ro.1, .inl ro.2.1)), (h3, .inr (1, [.int 512, .ref h4, .int st.2.2])), (h4, .inl (cI, st.1, .inl st.2.1))] H := hP
  have hD : va_D A [(h0, .inr (2, [.ref h1, .ref h3, .int (mk 0), .int 0, .int (mk 2), .int (mk 3), .int (mk 4), .int (mk 5), .int (mk 6), .int (mk 7), .int (mk 8), .int (mk 9), .int (mk 10), .int (mk 11)])), (h1, .inr (0, [.ref h2, .int ro.2.2])), (h2, .inl (cB, ro.1, .inl ro.2.1)), (h3, .inr (1, [.int 512, .ref h4, .int st.2.2])), (h4, .inl (cI, st.1, .inl st.2.1))] := hD
  refine lv_aload_n hx hb d_Mk_leavePage_5 rfl (lv_at hl 0 rfl) ?_
  refine lv_iconst (v := 0) hx hb d_Mk_leavePage_6 (by decide) ?_
  refine va_put (D := D) (ci := 2) (v := .int 0) (ty := .int) (C := R_Mk) (T := F_Mk) (N := 14) hx hb (kl_Mk hK.2) (fun _ h => h) t_Mk t_Mk_ok n_Mk hown hK.1 hP hD hS 0 rfl rfl 12 (by decide) (hw kw_52) (fun _ h9 => h9) rfl (t_Mk_ok 12 (by decide)) rfl rfl (Nat.le_of_ble_eq_true rfl) d_Mk_leavePage_7 (fun H locs hP hD hS => ?_)
  have hP : va_P D classes [(h0, .inr (2, [.ref h1, .ref h3, .int (mk 0), .int 0, .int (mk 2), .int (mk 3), .int (mk 4), .int (mk 5), .int (mk 6), .int (mk 7), .int (mk 8), .int (mk 9), .int 0, .int (mk 11)])), (h1, .inr (0, [.ref h2, .int ro.2.2])), (h2, .inl (cB, ro.1, .inl ro.2.1)), (h3, .inr (1, [.int 512, .ref h4, .int st.2.2])), (h4, .inl (cI, st.1, .inl st.2.1))] H := hP
  have hD : va_D A [(h0, .inr (2, [.ref h1, .ref h3, .int (mk 0), .int 0, .int (mk 2), .int (mk 3), .int (mk 4), .int (mk 5), .int (mk 6), .int (mk 7), .int (mk 8), .int (mk 9), .int 0, .int (mk 11)])), (h1, .inr (0, [.ref h2, .int ro.2.2])), (h2, .inl (cB, ro.1, .inl ro.2.1)), (h3, .inr (1, [.int 512, .ref h4, .int st.2.2])), (h4, .inl (cI, st.1, .inl st.2.1))] := hD
  refine lv_aload_n hx hb d_Mk_leavePage_10 rfl (lv_at hl 0 rfl) ?_
  refine lv_iconst (v := 0) hx hb d_Mk_leavePage_11 (by decide) ?_
  refine va_put (D := D) (ci := 2) (v := .int 0) (ty := .int) (C := R_Mk) (T := F_Mk) (N := 14) hx hb (kl_Mk hK.2) (fun _ h => h) t_Mk t_Mk_ok n_Mk hown hK.1 hP hD hS 0 rfl rfl 13 (by decide) (hw kw_53) (fun _ h9 => h9) rfl (t_Mk_ok 13 (by decide)) rfl rfl (Nat.le_of_ble_eq_true rfl) d_Mk_leavePage_12 (fun H locs hP hD hS => ?_)
  have hP : va_P D classes [(h0, .inr (2, [.ref h1, .ref h3, .int (mk 0), .int 0, .int (mk 2), .int (mk 3), .int (mk 4), .int (mk 5), .int (mk 6), .int (mk 7), .int (mk 8), .int (mk 9), .int 0, .int 0])), (h1, .inr (0, [.ref h2, .int ro.2.2])), (h2, .inl (cB, ro.1, .inl ro.2.1)), (h3, .inr (1, [.int 512, .ref h4, .int st.2.2])), (h4, .inl (cI, st.1, .inl st.2.1))] H := hP
  have hD : va_D A [(h0, .inr (2, [.ref h1, .ref h3, .int (mk 0), .int 0, .int (mk 2), .int (mk 3), .int (mk 4), .int (mk 5), .int (mk 6), .int (mk 7), .int (mk 8), .int (mk 9), .int 0, .int 0])), (h1, .inr (0, [.ref h2, .int ro.2.2])), (h2, .inl (cB, ro.1, .inl ro.2.1)), (h3, .inr (1, [.int 512, .ref h4, .int st.2.2])), (h4, .inl (cI, st.1, .inl st.2.1))] := hD
  refine lv_aload_n hx hb d_Mk_leavePage_15 rfl (lv_at hl 0 rfl) ?_
  refine va_get (D := D) (ci := 2) (C := R_Mk) (T := F_Mk) (N := 14) hx hb (kl_Mk hK.2) (fun _ h => h) hown hK.1 hP 0 rfl rfl 1 (by decide) (hw kw_54) (fun _ h9 => h9) rfl d_Mk_leavePage_16 ?_
  refine lv_iconst (v := 0) hx hb d_Mk_leavePage_19 (by decide) ?_
  refine va_putN (host := "PictureFile") (D := D) (ci := 1) (v := .int 0) (ty := .int) (C := R_St) (T := F_St) (N := 3) hx hb (kl_St hK.2) (fun _ h => h) t_St t_St_ok n_St hown hK.1 hP hD hS 3 rfl rfl 2 (by decide) (hw kw_55) (fun _ h9 => h9) rfl (t_St_ok 2 (by decide)) rfl rfl (Nat.le_of_ble_eq_true rfl) d_Mk_leavePage_20 (fun H locs hP hD hS => ?_)
  have hP : va_P D classes [(h0, .inr (2, [.ref h1, .ref h3, .int (mk 0), .int 0, .int (mk 2), .int (mk 3), .int (mk 4), .int (mk 5), .int (mk 6), .int (mk 7), .int (mk 8), .int (mk 9), .int 0, .int 0])), (h1, .inr (0, [.ref h2, .int ro.2.2])), (h2, .inl (cB, ro.1, .inl ro.2.1)), (h3, .inr (1, [.int 512, .ref h4, .int 0])), (h4, .inl (cI, st.1, .inl st.2.1))] H := hP
  have hD : va_D A [(h0, .inr (2, [.ref h1, .ref h3, .int (mk 0), .int 0, .int (mk 2), .int (mk 3), .int (mk 4), .int (mk 5), .int (mk 6), .int (mk 7), .int (mk 8), .int (mk 9), .int 0, .int 0])), (h1, .inr (0, [.ref h2, .int ro.2.2])), (h2, .inl (cB, ro.1, .inl ro.2.1)), (h3, .inr (1, [.int 512, .ref h4, .int 0])), (h4, .inl (cI, st.1, .inl st.2.1))] := hD
  have ef : M_Mk_leavePage mk st = ((upd (upd (upd mk 1 0) 10 0) 11 0), (st.1, st.2.1, 0)) := by rfl
  exact ct_vret hx hb hr hlocks d_Mk_leavePage_23 ⟨Nat.zero_le _, Nat.zero_le _⟩ hQ hAe hS (h4, ((upd (upd (upd mk 1 0) 10 0) 11 0), (st.1, st.2.1, 0))) rfl ⟨ef.symm, (StOK.z0 hst), (by show st.1 ≤ st.1; omega)⟩ (hP.sub [0, 1, 2, 3, 4] rfl) (hD.sub [0, 1, 2, 3, 4] rfl rfl)
