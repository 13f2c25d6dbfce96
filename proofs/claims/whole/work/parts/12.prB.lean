section PRB
/-- the fault, on both sides -/
def RF (rd : Nat → Int32) (k t s : Int32) : Nat → Int32 := upd (upd (upd (upd (upd rd 1 0) 3 k) 4 (rd 2)) 5 t) 6 s
def MF (md : Nat → Int32) (k p t s : Int32) : Nat → Int32 := upd (upd (upd (upd md 16 k) 17 p) 18 t) 19 s
theorem refuse_val (rd : Nat → Int32) (k t s : Int32) : M_Rd_refuse rd k t s = (0, RF rd k t s) := rfl
theorem wrong_val (md : Nat → Int32) (k p t s : Int32) : M_Md_wrong md k p t s = (0, MF md k p t s) := rfl
section S
variable {md bf : Nat → Int32} {sz : Int32} {z : Nat}
theorem k144 {p t : Int32} {e T C : Nat} {a b : Bool} (hs : sz = nI z) (hz : z ≤ 65536) (he : e + 12 ≤ z) (hT : T < 65536) (hC : C < 4294967296) :
    K_Md_sound_144 md sz bf p (nI e) t (nI T) (lN C) (if a = true then 1 else 0) (if b = true then 1 else 0) = (if a = true ∧ b = true then (if C * bs T ≤ 4 ∨ r4 (md 14) bf (e + 8) + C * bs T ≤ z then (1, md) else (0, MF md 5 p t 0)) else (0, MF md 4 p t 0)) ∧ GK_Md_sound_144 md sz bf p (nI e) t (nI T) (lN C) (if a = true then 1 else 0) (if b = true then 1 else 0) := by
  have hb := bs_le T
  have h1 : C * bs T ≤ 4294967296 * 8 := Nat.mul_le_mul (by omega) hb
  have h2 := r4_lt (md 14) bf (e + 8)
  have e8 : nI e + (8 : Int32) = nI (e + 8) := nI_add e 8
  have ey : lN C * (M_Md_sizeOf (nI T)).toInt64 = lN (C * bs T) := by rw [(bs_c T hT).2, nI_l (by omega), lN_mul]
  have er : M_Md_readFour md bf (nI (e + 8)) = lN (r4 (md 14) bf (e + 8)) := mr4 md bf (by omega)
  have g8 : G_Md_readFour md bf (nI (e + 8)) := g4 md bf (by omega)
  have k1 : (lg_cmp (lN (C * bs T)) 4 ≤ 0) ↔ C * bs T ≤ 4 := by
    rw [lg_cmp_le]
    exact pk_lLE (b := 4) (by omega) (by omega)
  have k2 : (lg_cmp (lN (r4 (md 14) bf (e + 8)) + lN (C * bs T)) sz.toInt64 ≤ 0) ↔ r4 (md 14) bf (e + 8) + C * bs T ≤ z := by
    rw [lg_cmp_le, hs, nI_l (by omega), lN_add, pk_lLE (by omega) (by omega)]
  unfold K_Md_sound_144 GK_Md_sound_144
  cases a with
  | false =>
    rw [if_neg (by decide), if_pos rfl, if_pos rfl, if_neg (fun q => absurd q.1 (by decide))]
    exact ⟨rfl, trivial⟩
  | true =>
    rw [if_pos rfl, if_neg n10, if_neg n10]
    cases b with
    | false =>
      rw [if_neg (show ¬ (false = true) by decide), if_pos rfl, if_pos rfl, if_neg (fun q => absurd q.2 (by decide))]
      exact ⟨rfl, trivial⟩
    | true =>
      rw [if_pos rfl, if_neg n10, if_neg n10, if_pos ⟨rfl, rfl⟩, e8]
      (try dsimp only)
      rw [ey, er]
      by_cases c1 : C * bs T ≤ 4
      · rw [if_pos (k1.mpr c1), if_pos (Or.inl c1)]
        refine ⟨rfl, fun y hy => ?_⟩
        rw [hy, ey, if_pos (k1.mpr c1)]
        trivial
      · have q1 : ¬ lg_cmp (lN (C * bs T)) 4 ≤ 0 := fun q => c1 (k1.mp q)
        rw [if_neg q1]
        refine ⟨?_, fun y hy => ?_⟩
        · by_cases c2 : r4 (md 14) bf (e + 8) + C * bs T ≤ z
          · rw [if_pos (k2.mpr c2), if_pos (Or.inr c2)]
          · rw [if_neg (fun q => c2 (k2.mp q)), if_neg (fun q => q.elim c1 c2), wrong_val]
            rfl
        · rw [hy, ey, if_neg q1]
          exact g8
theorem k107 {p t : Int32} {e T C j : Nat} {a : Bool} (hj : j < 11) (hs : sz = nI z) (hz : z ≤ 65536) (he : e + 12 ≤ z) (hT : T < 65536) (hC : C < 4294967296) :
    K_Md_sound_107 md sz bf p (nI e) t (nI j) (nI T) (lN C) (if a = true then 1 else 0) = (if a = true ∧ cnt j C = true then (if C * bs T ≤ 4 ∨ r4 (md 14) bf (e + 8) + C * bs T ≤ z then (1, md) else (0, MF md 5 p t 0)) else (0, MF md 4 p t 0)) ∧ GK_Md_sound_107 md sz bf p (nI e) t (nI j) (nI T) (lN C) (if a = true then 1 else 0) := by
  have k1 : (lg_cmp (lN C) 1 < 0) ↔ C < 1 := by rw [lg_cmp_lt]; exact pk_lLT (b := 1) (by omega) (by omega)
  have k2 : (0 < lg_cmp (lN C) 4096) ↔ 4096 < C := by rw [lg_cmp_gt]; exact pk_lLT (a := 4096) (by omega) (by omega)
  have k3 : (8 : Int32) < nI j ↔ 8 < j := nI_ltI (a := 8) (by omega) (by omega)
  have k4 : (lg_cmp (lN C) 1 = 0) ↔ C = 1 := by rw [lg_cmp_eq]; exact pk_lEQ (b := 1) (by omega) (by omega)
  have f0 := k144 (md := md) (bf := bf) (sz := sz) (p := p) (t := t) (a := a) (b := false) hs hz he hT hC
  have f1 := k144 (md := md) (bf := bf) (sz := sz) (p := p) (t := t) (a := a) (b := true) hs hz he hT hC
  have no : cnt j C = false → K_Md_sound_144 md sz bf p (nI e) t (nI T) (lN C) (if a = true then 1 else 0) 0 = (if a = true ∧ cnt j C = true then (if C * bs T ≤ 4 ∨ r4 (md 14) bf (e + 8) + C * bs T ≤ z then (1, md) else (0, MF md 5 p t 0)) else (0, MF md 4 p t 0)) := by
    intro q
    rw [q]
    exact f0.1
  have yes : cnt j C = true → K_Md_sound_144 md sz bf p (nI e) t (nI T) (lN C) (if a = true then 1 else 0) 1 = (if a = true ∧ cnt j C = true then (if C * bs T ≤ 4 ∨ r4 (md 14) bf (e + 8) + C * bs T ≤ z then (1, md) else (0, MF md 5 p t 0)) else (0, MF md 4 p t 0)) := by
    intro q
    rw [q]
    exact f1.1
  unfold K_Md_sound_107 GK_Md_sound_107
  by_cases c1 : C < 1
  · rw [if_pos (k1.mpr c1), if_pos (k1.mpr c1)]
    exact ⟨no (by simp [cnt]; omega), f0.2⟩
  · rw [if_neg (fun q => c1 (k1.mp q)), if_neg (fun q => c1 (k1.mp q))]
    by_cases c2 : 4096 < C
    · rw [if_pos (k2.mpr c2), if_pos (k2.mpr c2)]
      exact ⟨no (by simp [cnt]; omega), f0.2⟩
    · rw [if_neg (fun q => c2 (k2.mp q)), if_neg (fun q => c2 (k2.mp q))]
      by_cases c3 : 8 < j
      · rw [if_pos (k3.mpr c3), if_pos (k3.mpr c3)]
        exact ⟨yes (by simp [cnt, c3]; omega), f1.2⟩
      · rw [if_neg (fun q => c3 (k3.mp q)), if_neg (fun q => c3 (k3.mp q))]
        by_cases c4 : C = 1
        · rw [if_pos (k4.mpr c4), if_pos (k4.mpr c4)]
          exact ⟨yes (by simp [cnt, c4]), f1.2⟩
        · rw [if_neg (fun q => c4 (k4.mp q)), if_neg (fun q => c4 (k4.mp q))]
          exact ⟨no (by simp [cnt, c4]; omega), f0.2⟩
theorem k55 {p t : Int32} {e T C j : Nat} (hj : j < 11) (hs : sz = nI z) (hz : z ≤ 65536) (he : e + 12 ≤ z) (hT : T < 65536) (hC : C < 4294967296) :
    K_Md_sound_55 md sz bf p (nI e) t (nI j) (nI T) (lN C) (if wt j = 4 then 1 else 0) = (if typ j T = true ∧ cnt j C = true then (if C * bs T ≤ 4 ∨ r4 (md 14) bf (e + 8) + C * bs T ≤ z then (1, md) else (0, MF md 5 p t 0)) else (0, MF md 4 p t 0)) ∧ GK_Md_sound_55 md sz bf p (nI e) t (nI j) (nI T) (lN C) (if wt j = 4 then 1 else 0) := by
  have k7 : nI j = 7 ↔ j = 7 := nI_eq (b := 7) (by omega) (by omega)
  have k8 : nI j = 8 ↔ j = 8 := nI_eq (b := 8) (by omega) (by omega)
  have t3 : nI T = 3 ↔ T = 3 := nI_eq (b := 3) (by omega) (by omega)
  have t4 : nI T = 4 ↔ T = 4 := nI_eq (b := 4) (by omega) (by omega)
  have t5 : nI T = 5 ↔ T = 5 := nI_eq (b := 5) (by omega) (by omega)
  have w5 := wt_5 j hj
  have win := wt_in j hj
  have f : ∀ a : Bool, a = typ j T → K_Md_sound_107 md sz bf p (nI e) t (nI j) (nI T) (lN C) (if a = true then 1 else 0) = (if typ j T = true ∧ cnt j C = true then (if C * bs T ≤ 4 ∨ r4 (md 14) bf (e + 8) + C * bs T ≤ z then (1, md) else (0, MF md 5 p t 0)) else (0, MF md 4 p t 0)) ∧ GK_Md_sound_107 md sz bf p (nI e) t (nI j) (nI T) (lN C) (if a = true then 1 else 0) := by
    intro a ha
    rw [ha]
    exact k107 hj hs hz he hT hC
  have yes := fun h : true = typ j T => f true h
  have no := fun h : false = typ j T => f false h
  unfold K_Md_sound_55 GK_Md_sound_55
  by_cases c7 : j = 7 ∨ j = 8
  · have w : wt j = 5 := w5.mpr c7
    have sel : (if nI T = 5 then K_Md_sound_107 md sz bf p (nI e) t (nI j) (nI T) (lN C) 1 else K_Md_sound_107 md sz bf p (nI e) t (nI j) (nI T) (lN C) 0) = (if typ j T = true ∧ cnt j C = true then (if C * bs T ≤ 4 ∨ r4 (md 14) bf (e + 8) + C * bs T ≤ z then (1, md) else (0, MF md 5 p t 0)) else (0, MF md 4 p t 0)) ∧ (if nI T = 5 then GK_Md_sound_107 md sz bf p (nI e) t (nI j) (nI T) (lN C) 1 else GK_Md_sound_107 md sz bf p (nI e) t (nI j) (nI T) (lN C) 0) := by
      by_cases c : T = 5
      · rw [if_pos (t5.mpr c), if_pos (t5.mpr c)]
        exact yes (by simp [typ, w, c])
      · rw [if_neg (fun q => c (t5.mp q)), if_neg (fun q => c (t5.mp q))]
        exact no (by simp [typ, w, c])
    rcases c7 with c7 | c7
    · rw [if_pos (k7.mpr c7), if_pos (k7.mpr c7)]
      exact sel
    · rw [if_neg (fun q => absurd (k7.mp q) (by omega)), if_neg (fun q => absurd (k7.mp q) (by omega)), if_pos (k8.mpr c7), if_pos (k8.mpr c7)]
      exact sel
  · have a7 : ¬ nI j = 7 := fun q => c7 (Or.inl (k7.mp q))
    have a8 : ¬ nI j = 8 := fun q => c7 (Or.inr (k8.mp q))
    have nw5 : ¬ wt j = 5 := fun q => c7 (w5.mp q)
    rw [if_neg a7, if_neg a7, if_neg a8, if_neg a8]
    by_cases c3 : T = 3
    · rw [if_pos (t3.mpr c3), if_pos (t3.mpr c3)]
      refine yes ?_
      rcases win with w | w | w
      · simp [typ, w, c3]
      · simp [typ, w, c3]
      · exact absurd w nw5
    · rw [if_neg (fun q => c3 (t3.mp q)), if_neg (fun q => c3 (t3.mp q))]
      by_cases w4 : wt j = 4
      · rw [if_pos w4, if_neg n10, if_neg n10]
        by_cases c4 : T = 4
        · rw [if_pos (t4.mpr c4), if_pos (t4.mpr c4)]
          exact yes (by simp [typ, w4, c4])
        · rw [if_neg (fun q => c4 (t4.mp q)), if_neg (fun q => c4 (t4.mp q))]
          exact no (by simp [typ, w4, c3, c4])
      · rw [if_neg w4, if_pos rfl, if_pos rfl]
        have w3 : wt j = 3 := by omega
        exact no (by simp [typ, w3, c3])
theorem either_val {α : Type} (f : Int32 → α) : ∀ j, j < 11 → (if nI j = 0 then f 1 else (if nI j = 1 then f 1 else (if nI j = 5 then f 1 else (if nI j ≤ 8 then f 0 else f 1)))) = f (if wt j = 4 then 1 else 0) := by
  intro j hj
  rcases (show j = 0 ∨ j = 1 ∨ j = 2 ∨ j = 3 ∨ j = 4 ∨ j = 5 ∨ j = 6 ∨ j = 7 ∨ j = 8 ∨ j = 9 ∨ j = 10 by omega) with rfl | rfl | rfl | rfl | rfl | rfl | rfl | rfl | rfl | rfl | rfl <;> rfl
theorem sound_val {p : Int32} {e j : Nat} (hj : j < 11) (hs : sz = nI z) (hz : z ≤ 65536) (he : e + 12 ≤ z) :
    M_Md_sound md sz bf p (nI e) (nI (tg j)) = (if typ j (r2 (md 14) bf (e + 2)) = true ∧ cnt j (r4 (md 14) bf (e + 4)) = true then (if r4 (md 14) bf (e + 4) * bs (r2 (md 14) bf (e + 2)) ≤ 4 ∨ r4 (md 14) bf (e + 8) + r4 (md 14) bf (e + 4) * bs (r2 (md 14) bf (e + 2)) ≤ z then (1, md) else (0, MF md 5 p (nI (tg j)) 0)) else (0, MF md 4 p (nI (tg j)) 0)) ∧ G_Md_sound md sz bf p (nI e) (nI (tg j)) := by
  have e2 : nI e + (2 : Int32) = nI (e + 2) := nI_add e 2
  have e4 : nI e + (4 : Int32) = nI (e + 4) := nI_add e 4
  have k := tg_known j hj
  have a2 : M_Md_readTwo md bf (nI (e + 2)) = nI (r2 (md 14) bf (e + 2)) := mr2 md bf (by omega)
  have a4 : M_Md_readFour md bf (nI (e + 4)) = lN (r4 (md 14) bf (e + 4)) := mr4 md bf (by omega)
  have f := k55 (md := md) (bf := bf) (sz := sz) (p := p) (t := nI (tg j)) (e := e) hj hs hz he (r2_lt (md 14) bf (e + 2)) (r4_lt (md 14) bf (e + 4))
  refine ⟨?_, ?_⟩
  · unfold M_Md_sound
    (try dsimp only)
    rw [e2, e4, k, a2, a4]
    refine (either_val (fun v => K_Md_sound_55 md sz bf p (nI e) (nI (tg j)) (nI j) (nI (r2 (md 14) bf (e + 2))) (lN (r4 (md 14) bf (e + 4))) v) j hj).trans ?_
    exact f.1
  · unfold G_Md_sound
    rw [e2, e4]
    intro y5 h5
    rw [h5, k]
    refine ⟨g2 md (by omega), fun y6 h6 => ?_⟩
    rw [h6, a2]
    refine ⟨g4 md bf (by omega), fun y7 h7 => ?_⟩
    rw [h7, a4]
    have q := either_val (fun v => GK_Md_sound_55 md sz bf p (nI e) (nI (tg j)) (nI j) (nI (r2 (md 14) bf (e + 2))) (lN (r4 (md 14) bf (e + 4))) v) j hj
    exact q.mpr f.2
/-- where an entry's values lie -/
def plc (o : Int32) (bf : Nat → Int32) (e : Nat) : Nat := if r4 o bf (e + 4) * bs (r2 o bf (e + 2)) ≤ 4 then e + 8 else r4 o bf (e + 8)
theorem keep_val {ty ct pl : Nat → Int32} {j : Nat} (hj : j < 11) (a b c : Int32) : M_En_keepEntry ty ct pl (nI (tg j) - 256) a b c = (upd ty (tg j - 256) a, upd ct (tg j - 256) b, upd pl (tg j - 256) c) := by
  have hi := tg_in j hj
  have e : nI (tg j) - (256 : Int32) = nI (tg j - 256) := pk_sub (b := 256) hi.1
  unfold M_En_keepEntry
  rw [e, if_neg (nI_pos (by omega)), if_neg (show ¬ (41 : Int32) ≤ nI (tg j - 256) from nI_ge (b := 41) (by omega) (by omega)), nI_clamp (by omega)]
theorem take_val {ro : RowS} {ty ct pl : Nat → Int32} {e j : Nat} {o : Int32} (h : FR ro sz bf z) (hj : j < 11) (he : e + 12 ≤ z) :
    M_En_take ro ty ct pl (nI e) (nI (tg j)) o = if typ j (r2 o bf (e + 2)) = true ∧ cnt j (r4 o bf (e + 4)) = true then (if r4 o bf (e + 4) * bs (r2 o bf (e + 2)) ≤ 4 ∨ r4 o bf (e + 8) + r4 o bf (e + 4) * bs (r2 o bf (e + 2)) ≤ z then (0, upd ty (tg j - 256) (nI (r2 o bf (e + 2))), upd ct (tg j - 256) (nI (r4 o bf (e + 4))), upd pl (tg j - 256) (nI (plc o bf e))) else (5, ty, ct, pl)) else (4, ty, ct, pl) := by
  have hz := h.2.1
  have hT := r2_lt o bf (e + 2)
  have hC := r4_lt o bf (e + 4)
  have hP := r4_lt o bf (e + 8)
  have hb := bs_le (r2 o bf (e + 2))
  have h1 : r4 o bf (e + 4) * bs (r2 o bf (e + 2)) ≤ 4294967296 * 8 := Nat.mul_le_mul (by omega) hb
  have e2 : nI e + (2 : Int32) = nI (e + 2) := nI_add e 2
  have e4 : nI e + (4 : Int32) = nI (e + 4) := nI_add e 4
  have e8 : nI e + (8 : Int32) = nI (e + 8) := nI_add e 8
  have c2 : M_Row_number ro (nI (e + 2)).toInt64 2 o = lN (r2 o bf (e + 2)) := by rw [nI_l (by omega)]; exact cr2 h o (by omega)
  have c4 : M_Row_number ro (nI (e + 4)).toInt64 4 o = lN (r4 o bf (e + 4)) := by rw [nI_l (by omega)]; exact cr4 h o (by omega)
  have c8 : M_Row_number ro (nI (e + 8)).toInt64 4 o = lN (r4 o bf (e + 8)) := by rw [nI_l (by omega)]; exact cr4 h o (by omega)
  have w0 : ¬ M_En_widestType (nI (tg j)) = 0 := by
    rw [tg_wide j hj]
    have := wt_in j hj
    exact nI_ne0 (by omega) (by omega)
  have ey : lN (r4 o bf (e + 4)) * (M_En_bytesOf (nI (r2 o bf (e + 2)))).toInt64 = lN (r4 o bf (e + 4) * bs (r2 o bf (e + 2))) := by rw [(bs_c _ hT).1, nI_l (by omega), lN_mul]
  unfold M_En_take
  (try dsimp only)
  rw [if_neg w0, e2, e4, e8, c2, c4, c8, lN_i, lN_i, lN_i, typ_val hj hT, cnt_val hj hC, ey]
  cases ht : typ j (r2 o bf (e + 2)) with
  | false =>
    rw [if_neg (show ¬ (false = true) by decide), if_pos rfl, if_neg (fun q => absurd q.1 (by decide))]
  | true =>
    rw [if_pos rfl, if_neg n10]
    cases hc : cnt j (r4 o bf (e + 4)) with
    | false =>
      rw [if_neg (show ¬ (false = true) by decide), if_pos rfl, if_neg (fun q => absurd q.2 (by decide))]
    | true =>
      rw [if_pos rfl, if_neg n10, if_pos ⟨rfl, rfl⟩]
      have k1 : (0 < lg_cmp (lN (r4 o bf (e + 4) * bs (r2 o bf (e + 2)))) 4) ↔ ¬ r4 o bf (e + 4) * bs (r2 o bf (e + 2)) ≤ 4 := by
        rw [lg_cmp_gt]
        refine (pk_lLT (a := 4) (by omega) (by omega)).trans ?_
        omega
      by_cases d1 : r4 o bf (e + 4) * bs (r2 o bf (e + 2)) ≤ 4
      · have k2 : lg_cmp ((nI (e + 8)).toInt64 + lN (r4 o bf (e + 4) * bs (r2 o bf (e + 2)))) ro.2.2.toInt64 ≤ 0 := by
          rw [lg_cmp_le, h.2.2.1, nI_l (by omega), nI_l (by omega), lN_add, pk_lLE (by omega) (by omega)]
          omega
        rw [if_neg (fun q => (k1.mp q) d1), if_pos k2, if_pos (Or.inl d1), keep_val hj]
        unfold plc
        rw [if_pos d1, nI_l (by omega), lN_i]
      · rw [if_pos (k1.mpr d1)]
        have k2 : (lg_cmp (lN (r4 o bf (e + 8)) + lN (r4 o bf (e + 4) * bs (r2 o bf (e + 2)))) ro.2.2.toInt64 ≤ 0) ↔ r4 o bf (e + 8) + r4 o bf (e + 4) * bs (r2 o bf (e + 2)) ≤ z := by
          rw [lg_cmp_le, h.2.2.1, nI_l (by omega), lN_add, pk_lLE (by omega) (by omega)]
        by_cases d2 : r4 o bf (e + 8) + r4 o bf (e + 4) * bs (r2 o bf (e + 2)) ≤ z
        · rw [if_pos (k2.mpr d2), if_pos (Or.inr d2), keep_val hj]
          unfold plc
          rw [if_neg d1]
        · rw [if_neg (fun q => d2 (k2.mp q)), if_neg (fun q => q.elim d1 d2)]
end S
end PRB
