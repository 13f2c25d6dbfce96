theorem d_copyOfB_0 : decode b_copyOfB 0 = .ok (.iload_n 1, 1) := by decide +kernel
theorem d_copyOfB_1 : decode b_copyOfB 1 = .ok (.aload_n 0, 1) := by decide +kernel
theorem d_copyOfB_2 : decode b_copyOfB 2 = .ok (.arraylength, 1) := by decide +kernel
theorem d_copyOfB_3 : decode b_copyOfB 3 = .ok (.if_icmp .ne 11, 3) := by decide +kernel
theorem d_copyOfB_14 : decode b_copyOfB 14 = .ok (.iload_n 1, 1) := by decide +kernel
theorem d_copyOfB_15 : decode b_copyOfB 15 = .ok (.newarray .byte, 2) := by decide +kernel
theorem d_copyOfB_17 : decode b_copyOfB 17 = .ok (.astore_n 2, 1) := by decide +kernel
theorem d_copyOfB_18 : decode b_copyOfB 18 = .ok (.aload_n 0, 1) := by decide +kernel
theorem d_copyOfB_19 : decode b_copyOfB 19 = .ok (.iconst 0, 1) := by decide +kernel
theorem d_copyOfB_20 : decode b_copyOfB 20 = .ok (.aload_n 2, 1) := by decide +kernel
theorem d_copyOfB_21 : decode b_copyOfB 21 = .ok (.iconst 0, 1) := by decide +kernel
theorem d_copyOfB_22 : decode b_copyOfB 22 = .ok (.aload_n 0, 1) := by decide +kernel
theorem d_copyOfB_23 : decode b_copyOfB 23 = .ok (.arraylength, 1) := by decide +kernel
theorem d_copyOfB_24 : decode b_copyOfB 24 = .ok (.iload_n 1, 1) := by decide +kernel
theorem d_copyOfB_25 : decode b_copyOfB 25 = .ok (.invokestatic 304, 3) := by decide +kernel
theorem d_copyOfB_28 : decode b_copyOfB 28 = .ok (.invokestatic 150, 3) := by decide +kernel
theorem d_copyOfB_31 : decode b_copyOfB 31 = .ok (.aload_n 2, 1) := by decide +kernel
theorem d_copyOfB_32 : decode b_copyOfB 32 = .ok (.areturn, 1) := by decide +kernel
theorem d_fillI_0 : decode b_fillI 0 = .ok (.iconst 0, 1) := by decide +kernel
theorem d_fillI_1 : decode b_fillI 1 = .ok (.istore_n 2, 1) := by decide +kernel
theorem d_fillI_2 : decode b_fillI 2 = .ok (.aload_n 0, 1) := by decide +kernel
theorem d_fillI_3 : decode b_fillI 3 = .ok (.arraylength, 1) := by decide +kernel
theorem d_fillI_4 : decode b_fillI 4 = .ok (.istore_n 3, 1) := by decide +kernel
theorem d_fillI_5 : decode b_fillI 5 = .ok (.iload_n 2, 1) := by decide +kernel
theorem d_fillI_6 : decode b_fillI 6 = .ok (.iload_n 3, 1) := by decide +kernel
theorem d_fillI_7 : decode b_fillI 7 = .ok (.if_icmp .ge 13, 3) := by decide +kernel
theorem d_fillI_10 : decode b_fillI 10 = .ok (.aload_n 0, 1) := by decide +kernel
theorem d_fillI_11 : decode b_fillI 11 = .ok (.iload_n 2, 1) := by decide +kernel
theorem d_fillI_12 : decode b_fillI 12 = .ok (.iload_n 1, 1) := by decide +kernel
theorem d_fillI_13 : decode b_fillI 13 = .ok (.iastore, 1) := by decide +kernel
theorem d_fillI_14 : decode b_fillI 14 = .ok (.iinc 2 1, 3) := by decide +kernel
theorem d_fillI_17 : decode b_fillI 17 = .ok (.goto (-12), 3) := by decide +kernel
theorem d_fillI_20 : decode b_fillI 20 = .ok (.return_, 1) := by decide +kernel
theorem d_copyOfI_0 : decode b_copyOfI 0 = .ok (.iload_n 1, 1) := by decide +kernel
theorem d_copyOfI_1 : decode b_copyOfI 1 = .ok (.aload_n 0, 1) := by decide +kernel
theorem d_copyOfI_2 : decode b_copyOfI 2 = .ok (.arraylength, 1) := by decide +kernel
theorem d_copyOfI_3 : decode b_copyOfI 3 = .ok (.if_icmp .ne 11, 3) := by decide +kernel
theorem d_copyOfI_14 : decode b_copyOfI 14 = .ok (.iload_n 1, 1) := by decide +kernel
theorem d_copyOfI_15 : decode b_copyOfI 15 = .ok (.newarray .int, 2) := by decide +kernel
theorem d_copyOfI_17 : decode b_copyOfI 17 = .ok (.astore_n 2, 1) := by decide +kernel
theorem d_copyOfI_18 : decode b_copyOfI 18 = .ok (.aload_n 0, 1) := by decide +kernel
theorem d_copyOfI_19 : decode b_copyOfI 19 = .ok (.iconst 0, 1) := by decide +kernel
theorem d_copyOfI_20 : decode b_copyOfI 20 = .ok (.aload_n 2, 1) := by decide +kernel
theorem d_copyOfI_21 : decode b_copyOfI 21 = .ok (.iconst 0, 1) := by decide +kernel
theorem d_copyOfI_22 : decode b_copyOfI 22 = .ok (.aload_n 0, 1) := by decide +kernel
theorem d_copyOfI_23 : decode b_copyOfI 23 = .ok (.arraylength, 1) := by decide +kernel
theorem d_copyOfI_24 : decode b_copyOfI 24 = .ok (.iload_n 1, 1) := by decide +kernel
theorem d_copyOfI_25 : decode b_copyOfI 25 = .ok (.invokestatic 304, 3) := by decide +kernel
theorem d_copyOfI_28 : decode b_copyOfI 28 = .ok (.invokestatic 150, 3) := by decide +kernel
theorem d_copyOfI_31 : decode b_copyOfI 31 = .ok (.aload_n 2, 1) := by decide +kernel
theorem d_copyOfI_32 : decode b_copyOfI 32 = .ok (.areturn, 1) := by decide +kernel
-- java/util/Arrays.copyOf and fill; @kw..@ stands for a word
set_option maxHeartbeats 4000000 in
set_option maxRecDepth 100000 in
theorem c_copyOfB {l : Launch} {D : va_G} {cB cI cJ : ClassId} (h0 n : Nat) (f : Nat → Int32) (N : Int32) (hn : n < 2 ^ 31) (hf : ∀ j, fits .byte (.int (f j)) = true) (hN0 : ¬ N < 0) (hN2 : N.toNatClampNeg ≤ 131072) (hne : ¬ N = nI n) : Ct classes BW l D (TY cB cI cJ) y_copyOfB b_copyOfB 3 (some (.array .byte)) ({ frames := 1, cells := 1, slots := N.toNatClampNeg, locals := 60 } : Room) [.ref h0, .int N] [(h0, .inl (cB, n, .inl f))] (fun _ : Nat => True) (fun u => some (.ref u)) (fun u => [(h0, .inl (cB, n, .inl f)), (u, .inl (cB, N.toNatClampNeg, .inl (cpyN f n N)))]) 1 N.toNatClampNeg := by
  refine Ct.intro (by decide +kernel) (Nat.le_of_ble_eq_true rfl) ?_
  intro p e s m below meth c hx hb hr hml hlocks hnm hown hK A hAe hA hS hP hD ls hl Q hQ
  have hown : s.vm.findClass "java/util/Arrays" = some m.cls := hown
  have hw : ∀ {w : Cond}, w ∈ BW → w.before ([.ref h0, .int N] : List Value).toArray s = true := fun h => Wd.at bw_ok hK.2 h
  have hl : lv_has ls 3 [(0, .ref h0), (1, .int N)] := hl
  refine lv_iload_n hx hb d_copyOfB_0 rfl (lv_at hl 1 rfl) ?_
  refine lv_aload_n hx hb d_copyOfB_1 rfl (lv_at hl 0 rfl) ?_
  refine va_alen (v := nI n) hx hb hK.1 hP 0 0 rfl rfl rfl d_copyOfB_2 ?_
  refine lv_icmp_ne (tgt := 14) hx hb d_copyOfB_3 (by decide) (fun _ => ?_) (fun h => absurd h hne)
  refine lv_iload_n hx hb d_copyOfB_14 rfl (lv_at hl 1 rfl) ?_
  refine va_newa (atype := .byte) (ty := .byte) (N' := N.toNatClampNeg) (a0 := (N.toNatClampNeg, (.inl (fun _ => 0)))) hx hb (hw kw_439) rfl hK.1 hP hD hS hA (fun _ => rfl) hN0 rfl (by show N.toNatClampNeg * 1 ≤ 536870912; omega) (Nat.le_of_ble_eq_true rfl) (by show 0 + N.toNatClampNeg ≤ N.toNatClampNeg; omega) d_copyOfB_15 (fun q1 cA H hK2 hP hD hS => ?_)
  have hcA : cA = cB := ty_same hK2 0 rfl
  have hP : va_P D classes [(h0, .inl (cB, n, .inl f)), (q1, .inl (cB, N.toNatClampNeg, .inl (fun _ => 0)))] H := by rw [hcA] at hP; exact hP
  have hD : va_D A [(h0, .inl (cB, n, .inl f)), (q1, .inl (cB, N.toNatClampNeg, .inl (fun _ => 0)))] := by rw [hcA] at hD; exact hD
  clear hcA hK2
  refine W.widen (k := 1) (n := N.toNatClampNeg) (by decide) (by omega) ?_
  refine lv_astore_n (lv' := [(2, .ref q1), (0, .ref h0), (1, .int N)]) hx hb d_copyOfB_17 rfl hl (by decide) rfl (fun ls hl => ?_)
  refine lv_aload_n hx hb d_copyOfB_18 rfl (lv_at hl 1 rfl) ?_
  refine lv_iconst (v := 0) hx hb d_copyOfB_19 (by decide) ?_
  refine lv_aload_n hx hb d_copyOfB_20 rfl (lv_at hl 0 rfl) ?_
  refine lv_iconst (v := 0) hx hb d_copyOfB_21 (by decide) ?_
  refine lv_aload_n hx hb d_copyOfB_22 rfl (lv_at hl 1 rfl) ?_
  refine va_alen (v := nI n) hx hb hK.1 hP 0 0 rfl rfl rfl d_copyOfB_23 ?_
  refine lv_iload_n hx hb d_copyOfB_24 rfl (lv_at hl 2 rfl) ?_
  refine va_mmin hx hb (hml.trans hl.1.symm) hown (hw kw_777) (hw kw_15) (hw kw_16) (hw kw_17) (Nat.le_of_ble_eq_true rfl) (Nat.le_of_ble_eq_true rfl) (Nat.le_refl _) (Nat.le_refl _) d_copyOfB_25 ?_
  obtain ⟨k0, k1, k2⟩ := cpy_k hn hN0
  refine va_copyi hx hb (hml.trans hl.1.symm) hown (hw kw_778) (hw kw_779) (hw kw_780) (hw kw_781) hK.1 hP hD hS 0 1 0 0 rfl rfl rfl rfl rfl (by decide) (by decide) k0 k1 k2 (fun i _ => hf _) (Nat.le_of_ble_eq_true rfl) (Nat.le_of_ble_eq_true rfl) d_copyOfB_28 (fun H locs hP hD hS => ?_)
  have hP : va_P D classes [(h0, .inl (cB, n, .inl f)), (q1, .inl (cB, N.toNatClampNeg, .inl (cpyN f n N)))] H := hP
  have hD : va_D A [(h0, .inl (cB, n, .inl f)), (q1, .inl (cB, N.toNatClampNeg, .inl (cpyN f n N)))] := hD
  refine lv_aload_n hx hb d_copyOfB_31 rfl (lv_at hl 0 rfl) ?_
  exact ct_aret hx hb hr (Or.inr ⟨_, rfl⟩) hlocks d_copyOfB_32 ⟨Nat.le_refl _, Nat.le_refl _⟩ hQ hAe hS q1 rfl trivial (hP.sub [0, 1] rfl) (hD.sub [0, 1] rfl rfl)

-- java/util/Arrays.copyOf and fill; @kw..@ stands for a word
set_option maxHeartbeats 4000000 in
set_option maxRecDepth 100000 in
theorem c_copyOfI {l : Launch} {D : va_G} {cB cI cJ : ClassId} (h0 n : Nat) (f : Nat → Int32) (N : Int32) (hn : n < 2 ^ 31) (hf : ∀ j, fits .int (.int (f j)) = true) (hN0 : ¬ N < 0) (hN2 : N.toNatClampNeg ≤ 131072) (hne : ¬ N = nI n) : Ct classes BW l D (TY cB cI cJ) y_copyOfI b_copyOfI 3 (some (.array .int)) ({ frames := 1, cells := 1, slots := N.toNatClampNeg, locals := 60 } : Room) [.ref h0, .int N] [(h0, .inl (cI, n, .inl f))] (fun _ : Nat => True) (fun u => some (.ref u)) (fun u => [(h0, .inl (cI, n, .inl f)), (u, .inl (cI, N.toNatClampNeg, .inl (cpyN f n N)))]) 1 N.toNatClampNeg := by
  refine Ct.intro (by decide +kernel) (Nat.le_of_ble_eq_true rfl) ?_
  intro p e s m below meth c hx hb hr hml hlocks hnm hown hK A hAe hA hS hP hD ls hl Q hQ
  have hown : s.vm.findClass "java/util/Arrays" = some m.cls := hown
  have hw : ∀ {w : Cond}, w ∈ BW → w.before ([.ref h0, .int N] : List Value).toArray s = true := fun h => Wd.at bw_ok hK.2 h
  have hl : lv_has ls 3 [(0, .ref h0), (1, .int N)] := hl
  refine lv_iload_n hx hb d_copyOfI_0 rfl (lv_at hl 1 rfl) ?_
  refine lv_aload_n hx hb d_copyOfI_1 rfl (lv_at hl 0 rfl) ?_
  refine va_alen (v := nI n) hx hb hK.1 hP 0 1 rfl rfl rfl d_copyOfI_2 ?_
  refine lv_icmp_ne (tgt := 14) hx hb d_copyOfI_3 (by decide) (fun _ => ?_) (fun h => absurd h hne)
  refine lv_iload_n hx hb d_copyOfI_14 rfl (lv_at hl 1 rfl) ?_
  refine va_newa (atype := .int) (ty := .int) (N' := N.toNatClampNeg) (a0 := (N.toNatClampNeg, (.inl (fun _ => 0)))) hx hb (hw kw_441) rfl hK.1 hP hD hS hA (fun _ => rfl) hN0 rfl (by show N.toNatClampNeg * 4 ≤ 536870912; omega) (Nat.le_of_ble_eq_true rfl) (by show 0 + N.toNatClampNeg ≤ N.toNatClampNeg; omega) d_copyOfI_15 (fun q1 cA H hK2 hP hD hS => ?_)
  have hcA : cA = cI := ty_same hK2 1 rfl
  have hP : va_P D classes [(h0, .inl (cI, n, .inl f)), (q1, .inl (cI, N.toNatClampNeg, .inl (fun _ => 0)))] H := by rw [hcA] at hP; exact hP
  have hD : va_D A [(h0, .inl (cI, n, .inl f)), (q1, .inl (cI, N.toNatClampNeg, .inl (fun _ => 0)))] := by rw [hcA] at hD; exact hD
  clear hcA hK2
  refine W.widen (k := 1) (n := N.toNatClampNeg) (by decide) (by omega) ?_
  refine lv_astore_n (lv' := [(2, .ref q1), (0, .ref h0), (1, .int N)]) hx hb d_copyOfI_17 rfl hl (by decide) rfl (fun ls hl => ?_)
  refine lv_aload_n hx hb d_copyOfI_18 rfl (lv_at hl 1 rfl) ?_
  refine lv_iconst (v := 0) hx hb d_copyOfI_19 (by decide) ?_
  refine lv_aload_n hx hb d_copyOfI_20 rfl (lv_at hl 0 rfl) ?_
  refine lv_iconst (v := 0) hx hb d_copyOfI_21 (by decide) ?_
  refine lv_aload_n hx hb d_copyOfI_22 rfl (lv_at hl 1 rfl) ?_
  refine va_alen (v := nI n) hx hb hK.1 hP 0 1 rfl rfl rfl d_copyOfI_23 ?_
  refine lv_iload_n hx hb d_copyOfI_24 rfl (lv_at hl 2 rfl) ?_
  refine va_mmin hx hb (hml.trans hl.1.symm) hown (hw kw_777) (hw kw_15) (hw kw_16) (hw kw_17) (Nat.le_of_ble_eq_true rfl) (Nat.le_of_ble_eq_true rfl) (Nat.le_refl _) (Nat.le_refl _) d_copyOfI_25 ?_
  obtain ⟨k0, k1, k2⟩ := cpy_k hn hN0
  refine va_copyi hx hb (hml.trans hl.1.symm) hown (hw kw_778) (hw kw_779) (hw kw_780) (hw kw_781) hK.1 hP hD hS 0 1 1 1 rfl rfl rfl rfl rfl (by decide) (by decide) k0 k1 k2 (fun i _ => hf _) (Nat.le_of_ble_eq_true rfl) (Nat.le_of_ble_eq_true rfl) d_copyOfI_28 (fun H locs hP hD hS => ?_)
  have hP : va_P D classes [(h0, .inl (cI, n, .inl f)), (q1, .inl (cI, N.toNatClampNeg, .inl (cpyN f n N)))] H := hP
  have hD : va_D A [(h0, .inl (cI, n, .inl f)), (q1, .inl (cI, N.toNatClampNeg, .inl (cpyN f n N)))] := hD
  refine lv_aload_n hx hb d_copyOfI_31 rfl (lv_at hl 0 rfl) ?_
  exact ct_aret hx hb hr (Or.inr ⟨_, rfl⟩) hlocks d_copyOfI_32 ⟨Nat.le_refl _, Nat.le_refl _⟩ hQ hAe hS q1 rfl trivial (hP.sub [0, 1] rfl) (hD.sub [0, 1] rfl rfl)

def L_fillI (nn : Nat) (p1 : Int32) : Nat → Int32 → (Nat → Int32) → (Nat → Int32)
  | 0, _, f => f
  | n + 1, v2, f => if nI nn ≤ v2 then f else L_fillI nn p1 n (v2 + 1) (upd f v2.toNatClampNeg p1)
theorem L_fill_eq (nn : Nat) (p1 : Int32) (hn : nn < 2 ^ 31) (f0 : Nat → Int32) : ∀ (n k : Nat) (f : Nat → Int32), k ≤ nn → nn - k < n → (∀ j, f j = if j < k then p1 else f0 j) → L_fillI nn p1 n (nI k) f = fillN f0 nn p1 := by
  intro n
  induction n with
  | zero => intro k f _ h; exact absurd h (Nat.not_lt_zero _)
  | succ n ih =>
    intro k f hk hm hf
    rw [L_fillI]
    rcases Nat.lt_or_ge k nn with q | q
    · rw [if_neg (nI_ge q hn), nI_1, nI_clamp (by omega)]
      refine ih (k + 1) _ q (by omega) (fun j => ?_)
      by_cases e : j = k
      · subst e
        rw [pk_us, if_pos (Nat.lt_succ_self _)]
      · rw [pk_un e, hf j]
        by_cases z : j < k
        · rw [if_pos z, if_pos (by omega)]
        · rw [if_neg z, if_neg (by omega)]
    · rw [if_pos (nI_le q (by omega))]
      funext j
      rw [hf j]
      have : k = nn := by omega
      subst this
      rfl
set_option maxHeartbeats 4000000 in
set_option maxRecDepth 100000 in
theorem c_fillI {l : Launch} {D : va_G} {cB cI cJ : ClassId} (h0 nn : Nat) (f : Nat → Int32) (p1 : Int32) (hn : nn < 2 ^ 31) : Ct classes BW l D (TY cB cI cJ) y_fillI b_fillI 4 none ({ frames := 0, cells := 0, slots := 0, locals := 0 } : Room) [.ref h0, .int p1] [(h0, .inl (cI, nn, .inl f))] (fun _ : Unit => True) (fun _ => none) (fun _ => [(h0, .inl (cI, nn, .inl (fillN f nn p1)))]) 0 0 := by
  refine Ct.intro (by decide +kernel) (Nat.le_of_ble_eq_true rfl) ?_
  intro p e s m below meth c hx hb hr hml hlocks hnm hown hK A hAe hA hS hP hD ls hl Q hQ
  have hl : lv_has ls 4 [(0, .ref h0), (1, .int p1)] := hl
  refine lv_iconst (v := 0) hx hb d_fillI_0 (by decide) ?_
  refine lv_istore_n (lv' := [(2, .int 0), (0, .ref h0), (1, .int p1)]) hx hb d_fillI_1 rfl hl (by decide) rfl (fun ls hl => ?_)
  refine lv_aload_n hx hb d_fillI_2 rfl (lv_at hl 1 rfl) ?_
  refine va_alen (v := nI nn) hx hb hK.1 hP 0 1 rfl rfl rfl d_fillI_3 ?_
  refine lv_istore_n (lv' := [(3, .int (nI nn)), (2, .int 0), (0, .ref h0), (1, .int p1)]) hx hb d_fillI_4 rfl hl (by decide) rfl (fun ls hl => ?_)
  have LP : ∀ (n : Nat) (k : Nat) (g : Nat → Int32) (H : Heap) (locs : List Loc) (ls : Array Slot), k ≤ nn → nn - k < n → fillN f nn p1 = L_fillI nn p1 n (nI k) g → va_P D classes [(h0, .inl (cI, nn, .inl g))] H → va_D A [(h0, .inl (cI, nn, .inl g))] → va_S A s.heap H locs → lv_has ls 4 [(3, .int (nI nn)), (2, .int (nI k)), (0, .ref h0), (1, .int p1)] → W p l e ({ frames := 0, cells := 0, slots := 0, locals := 0 } : Room) s m ([.ref h0, .int p1] : List Value).toArray below meth c H locs 0 0 Q (F0 m 5 ls []) := by
    intro n
    induction n with
    | zero => intro k g H locs ls hk hmu; exact absurd hmu (Nat.not_lt_zero _)
    | succ n ih =>
      intro k g H locs ls hk hmu hM hP hD hS hl
      refine lv_iload_n hx hb d_fillI_5 rfl (lv_at hl 1 rfl) ?_
      refine lv_iload_n hx hb d_fillI_6 rfl (lv_at hl 0 rfl) ?_
      refine lv_icmp_ge (tgt := 20) hx hb d_fillI_7 (by decide) (fun c_1 => ?_) (fun c_1 => ?_)
      · rw [L_fillI, if_pos c_1] at hM
        rw [← hM] at hP hD
        exact ct_vret hx hb hr hlocks d_fillI_20 ⟨Nat.zero_le _, Nat.zero_le _⟩ hQ hAe hS () rfl trivial (hP.sub [0] rfl) (hD.sub [0] rfl rfl)
      · have hlt : k < nn := by
          rcases Nat.lt_or_ge k nn with q | q
          · exact q
          · exact absurd (nI_le q (by omega)) c_1
        refine lv_aload_n hx hb d_fillI_10 rfl (lv_at hl 2 rfl) ?_
        refine lv_iload_n hx hb d_fillI_11 rfl (lv_at hl 1 rfl) ?_
        refine lv_iload_n hx hb d_fillI_12 rfl (lv_at hl 3 rfl) ?_
        refine va_iast hx hb hK.1 hP hD hS 0 1 rfl rfl (vp_in_nI hlt hn) d_fillI_13 (fun H locs hP hD hS => ?_)
        refine lv_iinc (v := nI k + 1) (lv' := [(2, .int (nI k + 1)), (3, .int (nI nn)), (0, .ref h0), (1, .int p1)]) hx hb d_fillI_14 hl (k := 1) rfl rfl (by decide) rfl (fun ls hl => ?_)
        refine lv_goto (tgt := 5) hx hb d_fillI_17 (by decide) ?_
        rw [L_fillI, if_neg c_1] at hM
        rw [nI_1] at hl hM
        exact ih (k + 1) _ H locs ls hlt (by omega) hM (hP.sub [0] rfl) (hD.sub [0] rfl rfl) hS (lv_sub hl [1, 0, 2, 3] rfl)
  exact LP (nn + 1) 0 f _ _ _ (Nat.zero_le _) (by omega) (L_fill_eq nn p1 hn f (nn + 1) 0 f (Nat.zero_le _) (by omega) (fun j => by rw [if_neg (Nat.not_lt_zero j)])).symm hP hD hS (lv_sub hl [0, 1, 2, 3] rfl)
