section PRB
/-- the fault, on both sides -/
def RF (rd : Nat → Int32) (k t s : Int32) : Nat → Int32 := upd (upd (upd (upd (upd rd 1 0) 3 k) 4 (rd 2)) 5 t) 6 s
def MF (md : Nat → Int32) (k p t s : Int32) : Nat → Int32 := upd (upd (upd (upd md 16 k) 17 p) 18 t) 19 s
theorem refuse_val (rd : Nat → Int32) (k t s : Int32) : M_Rd_refuse rd k t s = (0, RF rd k t s) := rfl
theorem wrong_val (md : Nat → Int32) (k p t s : Int32) : M_Md_wrong md k p t s = (0, MF md k p t s) := rfl
section S
variable {md bf : Nat → Int32} {sz : Int32} {z : Nat}
theorem k144 {p t : Int32} {e T C : Nat} {a b : Bool} (hs : sz = nI z) (hz : z ≤ 65536) (he : e + 12 ≤ z) (hT : T < 65536) (hC : C < 4294967296) :
    K_Md_sound_144 md sz bf p (nI e) t (nI T) (lN C) (if a = true then 1 else 0) (if b = true then 1 else 0) = (if a = true ∧ b = true then (if C * bs T ≤ 4 ∨ r4 (md 14) bf (e + 8) + C * bs T ≤ z then (1, md) else (0, MF md 5 p t 0)) else (0, MF md 4 p t 0)) ∧ GK_Md_sound_144 md sz bf p (nI e) t (nI T) (lN C) (if a = true then 1 else 0) (if b = true then 1 else 0) := by
  have hb := bs_le T
  have h1 : C * bs T ≤ 4294967296 * 8 := Nat.mul_le_mul (by omega) hb
  have h2 := r4_lt (md 14) bf (e + 8)
  have e8 : nI e + (8 : Int32) = nI (e + 8) := nI_add e 8
  have ey : lN C * (M_Md_sizeOf (nI T)).toInt64 = lN (C * bs T) := by rw [(bs_c T hT).2, nI_l (by omega), lN_mul]
  have er : M_Md_readFour md bf (nI (e + 8)) = lN (r4 (md 14) bf (e + 8)) := mr4 md bf (by omega)
  have g8 : G_Md_readFour md bf (nI (e + 8)) := g4 md bf (by omega)
  have k1 : (lg_cmp (lN (C * bs T)) 4 ≤ 0) ↔ C * bs T ≤ 4 := by
    rw [lg_cmp_le]
    exact pk_lLE (b := 4) (by omega) (by omega)
  have k2 : (lg_cmp (lN (r4 (md 14) bf (e + 8)) + lN (C * bs T)) sz.toInt64 ≤ 0) ↔ r4 (md 14) bf (e + 8) + C * bs T ≤ z := by
    rw [lg_cmp_le, hs, nI_l (by omega), lN_add, pk_lLE (by omega) (by omega)]
  unfold K_Md_sound_144 GK_Md_sound_144
  have f0 : (if false = true then (1 : Int32) else 0) = 0 := rfl
  have f1 : ¬ (if true = true then (1 : Int32) else 0) = 0 := n10
  cases a with
  | false =>
    rw [if_pos f0, if_pos f0, if_neg (show ¬ (false = true ∧ b = true) from fun q => absurd q.1 (by decide))]
    exact ⟨rfl, trivial⟩
  | true =>
    rw [if_neg f1, if_neg f1]
    cases b with
    | false =>
      rw [if_pos f0, if_pos f0, if_neg (show ¬ (true = true ∧ false = true) from fun q => absurd q.2 (by decide))]
      exact ⟨rfl, trivial⟩
    | true =>
      rw [if_neg f1, if_neg f1, if_pos (show true = true ∧ true = true from ⟨rfl, rfl⟩), e8]
      (try dsimp only)
      rw [ey, er]
      by_cases c1 : C * bs T ≤ 4
      · rw [if_pos (k1.mpr c1), if_pos (Or.inl c1)]
        refine ⟨rfl, fun y hy => ?_⟩
        rw [hy, if_pos (k1.mpr c1)]
        trivial
      · have q1 : ¬ lg_cmp (lN (C * bs T)) 4 ≤ 0 := fun q => c1 (k1.mp q)
        rw [if_neg q1]
        refine ⟨?_, fun y hy => ?_⟩
        · by_cases c2 : r4 (md 14) bf (e + 8) + C * bs T ≤ z
          · rw [if_pos (k2.mpr c2), if_pos (Or.inr c2)]
          · rw [if_neg (fun q => c2 (k2.mp q)), if_neg (show ¬ (C * bs T ≤ 4 ∨ r4 (md 14) bf (e + 8) + C * bs T ≤ z) from fun q => q.elim c1 c2), wrong_val] <;> rfl
        · rw [hy, if_neg q1]
          exact g8
theorem k107 {p t : Int32} {e T C j : Nat} {a : Bool} (hj : j < 11) (hs : sz = nI z) (hz : z ≤ 65536) (he : e + 12 ≤ z) (hT : T < 65536) (hC : C < 4294967296) :
    K_Md_sound_107 md sz bf p (nI e) t (nI j) (nI T) (lN C) (if a = true then 1 else 0) = (if a = true ∧ cnt j C = true then (if C * bs T ≤ 4 ∨ r4 (md 14) bf (e + 8) + C * bs T ≤ z then (1, md) else (0, MF md 5 p t 0)) else (0, MF md 4 p t 0)) ∧ GK_Md_sound_107 md sz bf p (nI e) t (nI j) (nI T) (lN C) (if a = true then 1 else 0) := by
  have k1 : (lg_cmp (lN C) 1 < 0) ↔ C < 1 := by rw [lg_cmp_lt]; exact pk_lLT (b := 1) (by omega) (by omega)
  have k2 : (0 < lg_cmp (lN C) 4096) ↔ 4096 < C := by rw [lg_cmp_gt]; exact pk_lLT (a := 4096) (by omega) (by omega)
  have k3 : (8 : Int32) < nI j ↔ 8 < j := nI_ltI (a := 8) (by omega) (by omega)
  have k4 : (lg_cmp (lN C) 1 = 0) ↔ C = 1 := by rw [lg_cmp_eq]; exact pk_lEQ (b := 1) (by omega) (by omega)
  have f0 := k144 (md := md) (bf := bf) (sz := sz) (p := p) (t := t) (a := a) (b := false) hs hz he hT hC
  have f1 := k144 (md := md) (bf := bf) (sz := sz) (p := p) (t := t) (a := a) (b := true) hs hz he hT hC
  have no : cnt j C = false → K_Md_sound_144 md sz bf p (nI e) t (nI T) (lN C) (if a = true then 1 else 0) 0 = (if a = true ∧ cnt j C = true then (if C * bs T ≤ 4 ∨ r4 (md 14) bf (e + 8) + C * bs T ≤ z then (1, md) else (0, MF md 5 p t 0)) else (0, MF md 4 p t 0)) := by
    intro q
    rw [q]
    exact f0.1
  have yes : cnt j C = true → K_Md_sound_144 md sz bf p (nI e) t (nI T) (lN C) (if a = true then 1 else 0) 1 = (if a = true ∧ cnt j C = true then (if C * bs T ≤ 4 ∨ r4 (md 14) bf (e + 8) + C * bs T ≤ z then (1, md) else (0, MF md 5 p t 0)) else (0, MF md 4 p t 0)) := by
    intro q
    rw [q]
    exact f1.1
  unfold K_Md_sound_107 GK_Md_sound_107
  by_cases c1 : C < 1
  · rw [if_pos (k1.mpr c1), if_pos (k1.mpr c1)]
    exact ⟨no (by simp [cnt]; omega), f0.2⟩
  · rw [if_neg (fun q => c1 (k1.mp q)), if_neg (fun q => c1 (k1.mp q))]
    by_cases c2 : 4096 < C
    · rw [if_pos (k2.mpr c2), if_pos (k2.mpr c2)]
      exact ⟨no (by simp [cnt]; omega), f0.2⟩
    · rw [if_neg (fun q => c2 (k2.mp q)), if_neg (fun q => c2 (k2.mp q))]
      by_cases c3 : 8 < j
      · rw [if_pos (k3.mpr c3), if_pos (k3.mpr c3)]
        exact ⟨yes (by simp [cnt, c3]; omega), f1.2⟩
      · rw [if_neg (fun q => c3 (k3.mp q)), if_neg (fun q => c3 (k3.mp q))]
        by_cases c4 : C = 1
        · rw [if_pos (k4.mpr c4), if_pos (k4.mpr c4)]
          exact ⟨yes (by simp [cnt, c4]), f1.2⟩
        · rw [if_neg (fun q => c4 (k4.mp q)), if_neg (fun q => c4 (k4.mp q))]
          exact ⟨no (by simp [cnt, c4]; omega), f0.2⟩
theorem k55 {p t : Int32} {e T C j : Nat} (hj : j < 11) (hs : sz = nI z) (hz : z ≤ 65536) (he : e + 12 ≤ z) (hT : T < 65536) (hC : C < 4294967296) :
    K_Md_sound_55 md sz bf p (nI e) t (nI j) (nI T) (lN C) (if wt j = 4 then 1 else 0) = (if typ j T = true ∧ cnt j C = true then (if C * bs T ≤ 4 ∨ r4 (md 14) bf (e + 8) + C * bs T ≤ z then (1, md) else (0, MF md 5 p t 0)) else (0, MF md 4 p t 0)) ∧ GK_Md_sound_55 md sz bf p (nI e) t (nI j) (nI T) (lN C) (if wt j = 4 then 1 else 0) := by
  have k7 : nI j = 7 ↔ j = 7 := nI_eq (b := 7) (by omega) (by omega)
  have k8 : nI j = 8 ↔ j = 8 := nI_eq (b := 8) (by omega) (by omega)
  have t3 : nI T = 3 ↔ T = 3 := nI_eq (b := 3) (by omega) (by omega)
  have t4 : nI T = 4 ↔ T = 4 := nI_eq (b := 4) (by omega) (by omega)
  have t5 : nI T = 5 ↔ T = 5 := nI_eq (b := 5) (by omega) (by omega)
  have w5 := wt_5 j hj
  have win := wt_in j hj
  have f : ∀ a : Bool, a = typ j T → K_Md_sound_107 md sz bf p (nI e) t (nI j) (nI T) (lN C) (if a = true then 1 else 0) = (if typ j T = true ∧ cnt j C = true then (if C * bs T ≤ 4 ∨ r4 (md 14) bf (e + 8) + C * bs T ≤ z then (1, md) else (0, MF md 5 p t 0)) else (0, MF md 4 p t 0)) ∧ GK_Md_sound_107 md sz bf p (nI e) t (nI j) (nI T) (lN C) (if a = true then 1 else 0) := by
    intro a ha
    rw [ha]
    exact k107 hj hs hz he hT hC
  have yes := fun h : true = typ j T => f true h
  have no := fun h : false = typ j T => f false h
  unfold K_Md_sound_55 GK_Md_sound_55
  by_cases c7 : j = 7 ∨ j = 8
  · have w : wt j = 5 := w5.mpr c7
    have sel : (if nI T = 5 then K_Md_sound_107 md sz bf p (nI e) t (nI j) (nI T) (lN C) 1 else K_Md_sound_107 md sz bf p (nI e) t (nI j) (nI T) (lN C) 0) = (if typ j T = true ∧ cnt j C = true then (if C * bs T ≤ 4 ∨ r4 (md 14) bf (e + 8) + C * bs T ≤ z then (1, md) else (0, MF md 5 p t 0)) else (0, MF md 4 p t 0)) ∧ (if nI T = 5 then GK_Md_sound_107 md sz bf p (nI e) t (nI j) (nI T) (lN C) 1 else GK_Md_sound_107 md sz bf p (nI e) t (nI j) (nI T) (lN C) 0) := by
      by_cases c : T = 5
      · rw [if_pos (t5.mpr c), if_pos (t5.mpr c)]
        exact yes (by simp [typ, w, c])
      · rw [if_neg (fun q => c (t5.mp q)), if_neg (fun q => c (t5.mp q))]
        exact no (by simp [typ, w, c])
    rcases c7 with c7 | c7
    · rw [if_pos (k7.mpr c7), if_pos (k7.mpr c7)]
      exact sel
    · rw [if_neg (fun q => absurd (k7.mp q) (by omega)), if_neg (fun q => absurd (k7.mp q) (by omega)), if_pos (k8.mpr c7), if_pos (k8.mpr c7)]
      exact sel
  · have a7 : ¬ nI j = 7 := fun q => c7 (Or.inl (k7.mp q))
    have a8 : ¬ nI j = 8 := fun q => c7 (Or.inr (k8.mp q))
    have nw5 : ¬ wt j = 5 := fun q => c7 (w5.mp q)
    rw [if_neg a7, if_neg a7, if_neg a8, if_neg a8]
    by_cases c3 : T = 3
    · rw [if_pos (t3.mpr c3), if_pos (t3.mpr c3)]
      refine yes ?_
      rcases win with w | w | w
      · simp [typ, w, c3]
      · simp [typ, w, c3]
      · exact absurd w nw5
    · rw [if_neg (fun q => c3 (t3.mp q)), if_neg (fun q => c3 (t3.mp q))]
      by_cases w4 : wt j = 4
      · rw [if_pos w4, if_neg n10, if_neg n10]
        by_cases c4 : T = 4
        · rw [if_pos (t4.mpr c4), if_pos (t4.mpr c4)]
          exact yes (by simp [typ, w4, c4])
        · rw [if_neg (fun q => c4 (t4.mp q)), if_neg (fun q => c4 (t4.mp q))]
          exact no (by simp [typ, w4, c3, c4])
      · rw [if_neg w4, if_pos rfl, if_pos rfl]
        have w3 : wt j = 3 := by omega
        exact no (by simp [typ, w3, c3])
theorem either_val {α : Type} (f : Int32 → α) : ∀ j, j < 11 → (if nI j = 0 then f 1 else (if nI j = 1 then f 1 else (if nI j = 5 then f 1 else (if nI j ≤ 8 then f 0 else f 1)))) = f (if wt j = 4 then 1 else 0) := by
  intro j hj
  rcases (show j = 0 ∨ j = 1 ∨ j = 2 ∨ j = 3 ∨ j = 4 ∨ j = 5 ∨ j = 6 ∨ j = 7 ∨ j = 8 ∨ j = 9 ∨ j = 10 by omega) with rfl | rfl | rfl | rfl | rfl | rfl | rfl | rfl | rfl | rfl | rfl <;> rfl
theorem sound_val {p : Int32} {e j : Nat} (hj : j < 11) (hs : sz = nI z) (hz : z ≤ 65536) (he : e + 12 ≤ z) :
    M_Md_sound md sz bf p (nI e) (nI (tg j)) = (if typ j (r2 (md 14) bf (e + 2)) = true ∧ cnt j (r4 (md 14) bf (e + 4)) = true then (if r4 (md 14) bf (e + 4) * bs (r2 (md 14) bf (e + 2)) ≤ 4 ∨ r4 (md 14) bf (e + 8) + r4 (md 14) bf (e + 4) * bs (r2 (md 14) bf (e + 2)) ≤ z then (1, md) else (0, MF md 5 p (nI (tg j)) 0)) else (0, MF md 4 p (nI (tg j)) 0)) ∧ G_Md_sound md sz bf p (nI e) (nI (tg j)) := by
  have e2 : nI e + (2 : Int32) = nI (e + 2) := nI_add e 2
  have e4 : nI e + (4 : Int32) = nI (e + 4) := nI_add e 4
  have k := tg_known j hj
  have a2 : M_Md_readTwo md bf (nI (e + 2)) = nI (r2 (md 14) bf (e + 2)) := mr2 md bf (by omega)
  have a4 : M_Md_readFour md bf (nI (e + 4)) = lN (r4 (md 14) bf (e + 4)) := mr4 md bf (by omega)
  have f := k55 (md := md) (bf := bf) (sz := sz) (p := p) (t := nI (tg j)) (e := e) hj hs hz he (r2_lt (md 14) bf (e + 2)) (r4_lt (md 14) bf (e + 4))
  refine ⟨?_, ?_⟩
  · unfold M_Md_sound
    (try dsimp only)
    rw [e2, e4, k, a2, a4]
    refine (either_val (fun v => K_Md_sound_55 md sz bf p (nI e) (nI (tg j)) (nI j) (nI (r2 (md 14) bf (e + 2))) (lN (r4 (md 14) bf (e + 4))) v) j hj).trans ?_
    exact f.1
  · unfold G_Md_sound
    rw [e2, e4]
    intro y5 h5
    rw [h5, k]
    refine ⟨g2 md (by omega), fun y6 h6 => ?_⟩
    rw [h6, a2]
    refine ⟨g4 md bf (by omega), fun y7 h7 => ?_⟩
    rw [h7, a4]
    have q := either_val (fun v => GK_Md_sound_55 md sz bf p (nI e) (nI (tg j)) (nI j) (nI (r2 (md 14) bf (e + 2))) (lN (r4 (md 14) bf (e + 4))) v) j hj
    exact q.mpr f.2
/-- where an entry's values lie -/
def plc (o : Int32) (bf : Nat → Int32) (e : Nat) : Nat := if r4 o bf (e + 4) * bs (r2 o bf (e + 2)) ≤ 4 then e + 8 else r4 o bf (e + 8)
theorem keep_val {ty ct pl : Nat → Int32} {j : Nat} (hj : j < 11) (a b c : Int32) : M_En_keepEntry ty ct pl (nI (tg j) - 256) a b c = (upd ty (tg j - 256) a, upd ct (tg j - 256) b, upd pl (tg j - 256) c) := by
  have hi := tg_in j hj
  have e : nI (tg j) - (256 : Int32) = nI (tg j - 256) := pk_sub (b := 256) hi.1
  unfold M_En_keepEntry
  rw [e, if_neg (nI_pos (by omega)), if_neg (show ¬ (41 : Int32) ≤ nI (tg j - 256) from nI_ge (b := 41) (by omega) (by omega)), nI_clamp (by omega)]
theorem take_val {ro : RowS} {ty ct pl : Nat → Int32} {e j : Nat} {o : Int32} (h : FR ro sz bf z) (hj : j < 11) (he : e + 12 ≤ z) :
    M_En_take ro ty ct pl (nI e) (nI (tg j)) o = if typ j (r2 o bf (e + 2)) = true ∧ cnt j (r4 o bf (e + 4)) = true then (if r4 o bf (e + 4) * bs (r2 o bf (e + 2)) ≤ 4 ∨ r4 o bf (e + 8) + r4 o bf (e + 4) * bs (r2 o bf (e + 2)) ≤ z then (0, upd ty (tg j - 256) (nI (r2 o bf (e + 2))), upd ct (tg j - 256) (nI (r4 o bf (e + 4))), upd pl (tg j - 256) (nI (plc o bf e))) else (5, ty, ct, pl)) else (4, ty, ct, pl) := by
  have hz := h.2.1
  have hT := r2_lt o bf (e + 2)
  have hC := r4_lt o bf (e + 4)
  have hP := r4_lt o bf (e + 8)
  have hb := bs_le (r2 o bf (e + 2))
  have h1 : r4 o bf (e + 4) * bs (r2 o bf (e + 2)) ≤ 4294967296 * 8 := Nat.mul_le_mul (by omega) hb
  have e2 : nI e + (2 : Int32) = nI (e + 2) := nI_add e 2
  have e4 : nI e + (4 : Int32) = nI (e + 4) := nI_add e 4
  have e8 : nI e + (8 : Int32) = nI (e + 8) := nI_add e 8
  have c2 : M_Row_number ro (nI (e + 2)).toInt64 2 o = lN (r2 o bf (e + 2)) := by rw [nI_l (by omega)]; exact cr2 h o (by omega)
  have c4 : M_Row_number ro (nI (e + 4)).toInt64 4 o = lN (r4 o bf (e + 4)) := by rw [nI_l (by omega)]; exact cr4 h o (by omega)
  have c8 : M_Row_number ro (nI (e + 8)).toInt64 4 o = lN (r4 o bf (e + 8)) := by rw [nI_l (by omega)]; exact cr4 h o (by omega)
  have w0 : ¬ M_En_widestType (nI (tg j)) = 0 := by
    rw [tg_wide j hj]
    have := wt_in j hj
    exact nI_ne0 (by omega) (by omega)
  have ey : lN (r4 o bf (e + 4)) * (M_En_bytesOf (nI (r2 o bf (e + 2)))).toInt64 = lN (r4 o bf (e + 4) * bs (r2 o bf (e + 2))) := by rw [(bs_c _ hT).1, nI_l (by omega), lN_mul]
  unfold M_En_take
  (try dsimp only)
  rw [if_neg w0, e2, e4, e8, c2, c4, c8, lN_i, lN_i, lN_i, typ_val hj hT, cnt_val hj hC, ey]
  cases ht : typ j (r2 o bf (e + 2)) with
  | false =>
    rw [if_neg (show ¬ (false = true) by decide), if_pos rfl, if_neg (fun q => absurd q.1 (by decide))]
  | true =>
    rw [if_pos rfl, if_neg n10]
    cases hc : cnt j (r4 o bf (e + 4)) with
    | false =>
      rw [if_neg (show ¬ (false = true) by decide), if_pos rfl, if_neg (fun q => absurd q.2 (by decide))]
    | true =>
      rw [if_pos (show true = true from rfl), if_neg n10, if_pos (show true = true ∧ true = true from ⟨rfl, rfl⟩)]
      have k1 : (0 < lg_cmp (lN (r4 o bf (e + 4) * bs (r2 o bf (e + 2)))) 4) ↔ ¬ r4 o bf (e + 4) * bs (r2 o bf (e + 2)) ≤ 4 := by
        rw [lg_cmp_gt]
        refine (pk_lLT (a := 4) (by omega) (by omega)).trans ?_
        omega
      by_cases d1 : r4 o bf (e + 4) * bs (r2 o bf (e + 2)) ≤ 4
      · have k2 : lg_cmp ((nI (e + 8)).toInt64 + lN (r4 o bf (e + 4) * bs (r2 o bf (e + 2)))) ro.2.2.toInt64 ≤ 0 := by
          rw [lg_cmp_le, h.2.2.1, nI_l (by omega), nI_l (by omega), lN_add, pk_lLE (by omega) (by omega)]
          omega
        rw [if_neg (fun q => (k1.mp q) d1), if_pos k2, if_pos (Or.inl d1), keep_val hj]
        unfold plc
        rw [if_pos d1, nI_l (by omega), lN_i]
      · rw [if_pos (k1.mpr d1)]
        have k2 : (lg_cmp (lN (r4 o bf (e + 8)) + lN (r4 o bf (e + 4) * bs (r2 o bf (e + 2)))) ro.2.2.toInt64 ≤ 0) ↔ r4 o bf (e + 8) + r4 o bf (e + 4) * bs (r2 o bf (e + 2)) ≤ z := by
          rw [lg_cmp_le, h.2.2.1, nI_l (by omega), lN_add, pk_lLE (by omega) (by omega)]
        by_cases d2 : r4 o bf (e + 8) + r4 o bf (e + 4) * bs (r2 o bf (e + 2)) ≤ z
        · rw [if_pos (k2.mpr d2), if_pos (Or.inr d2), keep_val hj]
          unfold plc
          rw [if_neg d1]
        · rw [if_neg (fun q => d2 (k2.mp q)), if_neg (fun q => q.elim d1 d2)]
end S
end PRB
section PRC
theorem n10p {α : Type} {x : α} : ¬ ((1 : Int32), x).1 = 0 := n10
theorem p00 {α : Type} {x : α} : ((0 : Int32), x).1 = 0 := rfl
/-- an entry's state, on both sides -/
def Ent (o : Int32) (bf : Nat → Int32) (z j : Nat) (ty ct pl et : Nat → Int32) : Prop :=
  (et j = -1 ∧ ct (tg j - 256) = 0) ∨ ∃ e, et j = nI e ∧ e + 12 ≤ z ∧ typ j (r2 o bf (e + 2)) = true ∧ cnt j (r4 o bf (e + 4)) = true ∧ ty (tg j - 256) = nI (r2 o bf (e + 2)) ∧ ct (tg j - 256) = nI (r4 o bf (e + 4)) ∧ pl (tg j - 256) = nI (plc o bf e) ∧ plc o bf e + r4 o bf (e + 4) * bs (r2 o bf (e + 2)) ≤ z
def Ents (o : Int32) (bf : Nat → Int32) (z : Nat) (ty ct pl et : Nat → Int32) : Prop := ∀ j, j < 11 → Ent o bf z j ty ct pl et
def FK (q : Int32) : Prop := ¬ q ≤ 0 ∧ ¬ q = 0
theorem fk1 : FK 1 := ⟨by decide, by decide⟩
theorem fk2 : FK 2 := ⟨by decide, by decide⟩
theorem fk3 : FK 3 := ⟨by decide, by decide⟩
theorem fk4 : FK 4 := ⟨by decide, by decide⟩
theorem fk5 : FK 5 := ⟨by decide, by decide⟩
theorem fk6 : FK 6 := ⟨by decide, by decide⟩
theorem fk7 : FK 7 := ⟨by decide, by decide⟩
theorem fk8 : FK 8 := ⟨by decide, by decide⟩
theorem fk9 : FK 9 := ⟨by decide, by decide⟩
section T
variable {rd : Nat → Int32} {ro : RowS} {p0 o : Int32} {f : Nat} {v3 v4 t : Int32} {ty ct pl : Nat → Int32} {x : Int32 × (Nat → Int32) × (Nat → Int32) × (Nat → Int32)}
theorem te_end (h : M_Rd_entriesAt rd ro p0.toInt64 ≤ v4) : L_Rd_takeEntries rd ro p0 (f + 1) v3 v4 ty ct pl = (1, rd, ty, ct, pl) := by
  rw [L_Rd_takeEntries, if_pos h]
theorem te_bad (hr : rd 1 = o) (h : ¬ M_Rd_entriesAt rd ro p0.toInt64 ≤ v4) (ht : (M_Row_number ro (((p0 + 2) + (12 * v4)).toInt64) 2 o).toInt32 = t) (hv : ¬ v3 < t) : L_Rd_takeEntries rd ro p0 (f + 1) v3 v4 ty ct pl = (0, RF rd 3 t 0, ty, ct, pl) := by
  rw [L_Rd_takeEntries, if_neg h, hr, ht, if_neg hv] <;> rfl
theorem te_go (hr : rd 1 = o) (h : ¬ M_Rd_entriesAt rd ro p0.toInt64 ≤ v4) (ht : (M_Row_number ro (((p0 + 2) + (12 * v4)).toInt64) 2 o).toInt32 = t) (hv : v3 < t) (hx : M_En_take ro ty ct pl ((p0 + 2) + (12 * v4)) t o = x) (h0 : x.1 = 0) : L_Rd_takeEntries rd ro p0 (f + 1) v3 v4 ty ct pl = L_Rd_takeEntries rd ro p0 f t (v4 + 1) x.2.1 x.2.2.1 x.2.2.2 := by
  rw [L_Rd_takeEntries, if_neg h, hr, ht, if_pos hv]
  (try dsimp only)
  rw [hx, if_pos h0]
theorem te_no (hr : rd 1 = o) (h : ¬ M_Rd_entriesAt rd ro p0.toInt64 ≤ v4) (ht : (M_Row_number ro (((p0 + 2) + (12 * v4)).toInt64) 2 o).toInt32 = t) (hv : v3 < t) (hx : M_En_take ro ty ct pl ((p0 + 2) + (12 * v4)) t o = x) (h0 : ¬ x.1 = 0) : L_Rd_takeEntries rd ro p0 (f + 1) v3 v4 ty ct pl = (0, RF rd x.1 t 0, x.2.1, x.2.2.1, x.2.2.2) := by
  rw [L_Rd_takeEntries, if_neg h, hr, ht, if_pos hv]
  (try dsimp only)
  rw [hx, if_neg h0] <;> rfl
end T
section M
variable {sz : Int32} {bf : Nat → Int32} {p0 p1 : Int32} {g : Nat} {v3 v4 v5 t e : Int32} {md et m' : Nat → Int32}
theorem me_end (h : v4 ≤ v5) : L_Md_entries_33 sz bf p0 p1 (g + 1) v3 v4 v5 md et = (1, md, et) ∧ GL_Md_entries_33 sz bf p0 p1 (g + 1) v3 v4 v5 md et := by
  rw [L_Md_entries_33, GL_Md_entries_33, if_pos h, if_pos h]
  exact ⟨rfl, trivial⟩
theorem me_bad (h : ¬ v4 ≤ v5) (he : (p1 + 2) + (12 * v5) = e) (ht : M_Md_readTwo md bf e = t) (hg : G_Md_readTwo md e) (hv : ¬ v3 < t) : L_Md_entries_33 sz bf p0 p1 (g + 1) v3 v4 v5 md et = (0, MF md 3 p0 t 0, et) ∧ GL_Md_entries_33 sz bf p0 p1 (g + 1) v3 v4 v5 md et := by
  refine ⟨?_, ?_⟩
  · rw [L_Md_entries_33, if_neg h]
    (try dsimp only)
    rw [he, ht, if_neg hv] <;> rfl
  · rw [GL_Md_entries_33, if_neg h, he]
    intro y1 h1
    rw [h1]
    refine ⟨hg, fun y2 h2 => ?_⟩
    rw [h2, ht, if_neg hv]
    trivial
theorem me_skip (h : ¬ v4 ≤ v5) (he : (p1 + 2) + (12 * v5) = e) (ht : M_Md_readTwo md bf e = t) (hg : G_Md_readTwo md e) (hv : v3 < t) (hk : M_Md_known t < 0) : L_Md_entries_33 sz bf p0 p1 (g + 1) v3 v4 v5 md et = L_Md_entries_33 sz bf p0 p1 g t v4 (v5 + 1) md et ∧ (GL_Md_entries_33 sz bf p0 p1 g t v4 (v5 + 1) md et → GL_Md_entries_33 sz bf p0 p1 (g + 1) v3 v4 v5 md et) := by
  refine ⟨?_, fun q => ?_⟩
  · rw [L_Md_entries_33, if_neg h]
    (try dsimp only)
    rw [he, ht, if_pos hv, if_pos hk]
  · rw [GL_Md_entries_33, if_neg h, he]
    intro y1 h1
    rw [h1]
    refine ⟨hg, fun y2 h2 => ?_⟩
    rw [h2, ht, if_pos hv, if_pos hk]
    exact q
theorem me_go (h : ¬ v4 ≤ v5) (he : (p1 + 2) + (12 * v5) = e) (ht : M_Md_readTwo md bf e = t) (hg : G_Md_readTwo md e) (hv : v3 < t) (hk : ¬ M_Md_known t < 0) (hin : vp_in (M_Md_known t) 11) (hs : M_Md_sound md sz bf p0 e t = (1, md)) (hgs : G_Md_sound md sz bf p0 e t) : L_Md_entries_33 sz bf p0 p1 (g + 1) v3 v4 v5 md et = L_Md_entries_33 sz bf p0 p1 g t v4 (v5 + 1) md (upd et (M_Md_known t).toNatClampNeg e) ∧ (GL_Md_entries_33 sz bf p0 p1 g t v4 (v5 + 1) md (upd et (M_Md_known t).toNatClampNeg e) → GL_Md_entries_33 sz bf p0 p1 (g + 1) v3 v4 v5 md et) := by
  refine ⟨?_, fun q => ?_⟩
  · rw [L_Md_entries_33, if_neg h]
    (try dsimp only)
    rw [he, ht, if_pos hv, if_neg hk, hs, if_neg n10p]
  · rw [GL_Md_entries_33, if_neg h, he]
    intro y1 h1
    rw [h1]
    refine ⟨hg, fun y2 h2 => ?_⟩
    rw [h2, ht, if_pos hv, if_neg hk]
    refine ⟨hgs, fun x3 h3 => ?_⟩
    rw [h3, hs, if_neg n10p]
    exact ⟨hin, q⟩
theorem me_no (h : ¬ v4 ≤ v5) (he : (p1 + 2) + (12 * v5) = e) (ht : M_Md_readTwo md bf e = t) (hg : G_Md_readTwo md e) (hv : v3 < t) (hk : ¬ M_Md_known t < 0) (hs : M_Md_sound md sz bf p0 e t = (0, m')) (hgs : G_Md_sound md sz bf p0 e t) : L_Md_entries_33 sz bf p0 p1 (g + 1) v3 v4 v5 md et = (0, m', et) ∧ GL_Md_entries_33 sz bf p0 p1 (g + 1) v3 v4 v5 md et := by
  refine ⟨?_, ?_⟩
  · rw [L_Md_entries_33, if_neg h]
    (try dsimp only)
    rw [he, ht, if_pos hv, if_neg hk, hs, if_pos p00]
  · rw [GL_Md_entries_33, if_neg h, he]
    intro y1 h1
    rw [h1]
    refine ⟨hg, fun y2 h2 => ?_⟩
    rw [h2, ht, if_pos hv, if_neg hk]
    refine ⟨hgs, fun x3 h3 => ?_⟩
    rw [h3, hs, if_pos p00]
    trivial
end M
theorem ent_upd {o : Int32} {bf : Nat → Int32} {z : Nat} {ty ct pl et : Nat → Int32} (h : Ents o bf z ty ct pl et) {j e : Nat} (hj : j < 11) (he : e + 12 ≤ z) (h1 : typ j (r2 o bf (e + 2)) = true) (h2 : cnt j (r4 o bf (e + 4)) = true) (h3 : r4 o bf (e + 4) * bs (r2 o bf (e + 2)) ≤ 4 ∨ r4 o bf (e + 8) + r4 o bf (e + 4) * bs (r2 o bf (e + 2)) ≤ z) : Ents o bf z (upd ty (tg j - 256) (nI (r2 o bf (e + 2)))) (upd ct (tg j - 256) (nI (r4 o bf (e + 4)))) (upd pl (tg j - 256) (nI (plc o bf e))) (upd et j (nI e)) := by
  intro i hi
  by_cases c : i = j
  · subst c
    refine Or.inr ⟨e, pk_us, he, h1, h2, pk_us, pk_us, pk_us, ?_⟩
    unfold plc
    by_cases d : r4 o bf (e + 4) * bs (r2 o bf (e + 2)) ≤ 4
    · rw [if_pos d]
      omega
    · rw [if_neg d]
      exact h3.resolve_left d
  · have a := tg_in i hi
    have b := tg_in j hj
    have ne : ¬ tg i - 256 = tg j - 256 := fun q => c (tg_inj i hi j hj (by omega))
    rcases h i hi with ⟨q1, q2⟩ | ⟨e', q1, q2, q3, q4, q5, q6, q7, q8⟩
    · exact Or.inl ⟨by rw [pk_un c]; exact q1, by rw [pk_un ne]; exact q2⟩
    · exact Or.inr ⟨e', by rw [pk_un c]; exact q1, q2, q3, q4, by rw [pk_un ne]; exact q5, by rw [pk_un ne]; exact q6, by rw [pk_un ne]; exact q7, q8⟩
theorem ent_loop {rd md : Nat → Int32} {ro : RowS} {sz : Int32} {bf : Nat → Int32} {z k n : Nat} {p0 : Int32} (h : FR ro sz bf z) (ho : rd 1 = md 14) (hk : k + 2 + 12 * n ≤ z) (hn : M_Rd_entriesAt rd ro (nI k).toInt64 = nI n) :
    ∀ (r i f g : Nat) (v3 : Int32) (ty ct pl et : Nat → Int32), i + r = n → r < f → r < g → Ents (md 14) bf z ty ct pl et →
      ((∃ ty' ct' pl' et', L_Rd_takeEntries rd ro (nI k) f v3 (nI i) ty ct pl = (1, rd, ty', ct', pl') ∧ L_Md_entries_33 sz bf p0 (nI k) g v3 (nI n) (nI i) md et = (1, md, et') ∧ Ents (md 14) bf z ty' ct' pl' et') ∨
       (∃ q t ty' ct' pl' et', FK q ∧ L_Rd_takeEntries rd ro (nI k) f v3 (nI i) ty ct pl = (0, RF rd q t 0, ty', ct', pl') ∧ L_Md_entries_33 sz bf p0 (nI k) g v3 (nI n) (nI i) md et = (0, MF md q p0 t 0, et'))) ∧ GL_Md_entries_33 sz bf p0 (nI k) g v3 (nI n) (nI i) md et := by
  have hz := h.2.1
  intro r
  induction r with
  | zero =>
    intro i f g v3 ty ct pl et hi hf hg hE
    obtain ⟨f, rfl⟩ : ∃ f', f = f' + 1 := ⟨f - 1, by omega⟩
    obtain ⟨g, rfl⟩ : ∃ g', g = g' + 1 := ⟨g - 1, by omega⟩
    have hi2 : i = n := by omega
    rw [hi2]
    obtain ⟨a, b⟩ := me_end (sz := sz) (bf := bf) (p0 := p0) (p1 := nI k) (g := g) (v3 := v3) (md := md) (et := et) (Int32.le_refl (nI n))
    exact ⟨Or.inl ⟨ty, ct, pl, et, te_end (by rw [hn]; exact Int32.le_refl _), a, hE⟩, b⟩
  | succ r ih =>
    intro i f g v3 ty ct pl et hi hf hg hE
    obtain ⟨f, rfl⟩ : ∃ f', f = f' + 1 := ⟨f - 1, by omega⟩
    obtain ⟨g, rfl⟩ : ∃ g', g = g' + 1 := ⟨g - 1, by omega⟩
    have ee : (nI k + 2) + (12 * nI i) = nI (k + 2 + 12 * i) := by
      have e1 : nI k + (2 : Int32) = nI (k + 2) := nI_add k 2
      have e2 : (12 : Int32) * nI i = nI (12 * i) := pk_mul 12 i
      rw [e1, e2, nI_add]
    obtain ⟨e, he⟩ : ∃ e, e = k + 2 + 12 * i := ⟨_, rfl⟩
    rw [← he] at ee
    have hez : e + 12 ≤ z := by omega
    have c : ¬ nI n ≤ nI i := nI_ge (by omega) (by omega)
    have c' : ¬ M_Rd_entriesAt rd ro (nI k).toInt64 ≤ nI i := by rw [hn]; exact c
    obtain ⟨t, htt⟩ : ∃ t, t = r2 (md 14) bf e := ⟨_, rfl⟩
    have ht : t < 65536 := by rw [htt]; exact r2_lt _ _ _
    have t1 : (M_Row_number ro (((nI k + 2) + (12 * nI i)).toInt64) 2 (md 14)).toInt32 = nI t := by
      rw [ee, nI_l (by omega), cr2 h (md 14) (by omega), lN_i, htt]
    have t2 : M_Md_readTwo md bf (nI e) = nI t := by rw [mr2 md bf (by omega), htt]
    have t3 : G_Md_readTwo md (nI e) := g2 md (by omega)
    by_cases cv : v3 < nI t
    · rcases known_cases t ht with ⟨j, hj, ej⟩ | ⟨k1, k2⟩
      · rw [ej] at t1 t2 cv
        have kn := tg_known j hj
        have nk : ¬ M_Md_known (nI (tg j)) < 0 := by rw [kn]; exact nI_pos (by omega)
        have kin : vp_in (M_Md_known (nI (tg j))) 11 := by rw [kn]; exact vp_in_nI (by omega) (by omega)
        have kc : (M_Md_known (nI (tg j))).toNatClampNeg = j := by rw [kn]; exact nI_clamp (by omega)
        have tv := take_val (ty := ty) (ct := ct) (pl := pl) (o := md 14) h hj hez
        obtain ⟨sv, sg⟩ := sound_val (md := md) (bf := bf) (p := p0) hj h.2.2.2.1 hz hez
        rw [← ee] at tv
        by_cases c1 : typ j (r2 (md 14) bf (e + 2)) = true ∧ cnt j (r4 (md 14) bf (e + 4)) = true
        · rw [if_pos c1] at tv sv
          by_cases c2 : r4 (md 14) bf (e + 4) * bs (r2 (md 14) bf (e + 2)) ≤ 4 ∨ r4 (md 14) bf (e + 8) + r4 (md 14) bf (e + 4) * bs (r2 (md 14) bf (e + 2)) ≤ z
          · rw [if_pos c2] at tv sv
            have E2 := ent_upd hE hj hez c1.1 c1.2 c2
            obtain ⟨a, b⟩ := ih (i + 1) f g (nI (tg j)) _ _ _ _ (by omega) (by omega) (by omega) E2
            have q1 := te_go (f := f) (v3 := v3) ho c' t1 cv tv rfl
            obtain ⟨q2, q3⟩ := me_go (et := et) (g := g) c ee t2 t3 cv nk kin sv sg
            rw [kc] at q2 q3
            rw [nI_1] at q1 q2 q3
            rw [q1, q2]
            exact ⟨a, q3 b⟩
          · rw [if_neg c2] at tv sv
            have q1 := te_no (f := f) (v3 := v3) ho c' t1 cv tv (show ¬ (5 : Int32) = 0 by decide)
            obtain ⟨q2, q3⟩ := me_no (et := et) (g := g) c ee t2 t3 cv nk sv sg
            exact ⟨Or.inr ⟨5, nI (tg j), ty, ct, pl, et, fk5, q1, q2⟩, q3⟩
        · rw [if_neg c1] at tv sv
          have q1 := te_no (f := f) (v3 := v3) ho c' t1 cv tv (show ¬ (4 : Int32) = 0 by decide)
          obtain ⟨q2, q3⟩ := me_no (et := et) (g := g) c ee t2 t3 cv nk sv sg
          exact ⟨Or.inr ⟨4, nI (tg j), ty, ct, pl, et, fk4, q1, q2⟩, q3⟩
      · have tv : M_En_take ro ty ct pl ((nI k + 2) + (12 * nI i)) (nI t) (md 14) = (0, ty, ct, pl) := by
          unfold M_En_take
          rw [if_pos k2]
        have q1 := te_go (f := f) (v3 := v3) ho c' t1 cv tv rfl
        obtain ⟨q2, q3⟩ := me_skip (sz := sz) (p0 := p0) (et := et) (g := g) c ee t2 t3 cv (by rw [k1]; decide)
        obtain ⟨a, b⟩ := ih (i + 1) f g (nI t) ty ct pl et (by omega) (by omega) (by omega) hE
        rw [nI_1] at q1 q2 q3
        rw [q1, q2]
        exact ⟨a, q3 b⟩
    · have q1 := te_bad (f := f) (v3 := v3) (ty := ty) (ct := ct) (pl := pl) ho c' t1 cv
      obtain ⟨q2, q3⟩ := me_bad (sz := sz) (p0 := p0) (et := et) (g := g) c ee t2 t3 cv
      exact ⟨Or.inr ⟨3, nI t, ty, ct, pl, et, fk3, q1, q2⟩, q3⟩
theorem e2_loop {md : Nat → Int32} {sz : Int32} {bf : Nat → Int32} {p0 p1 : Int32} : ∀ (r i g : Nat) (et : Nat → Int32), i + r = 11 → r < g → (∀ j, j < i → et j = -1) →
    ∃ et', (∀ j, j < 11 → et' j = -1) ∧ L_Md_entries_2 md sz bf p0 p1 g (nI i) et = L_Md_entries_33 sz bf p0 p1 (((M_Md_readTwo md bf p1).toInt - (0 : Int32).toInt).toNat + 1) (-1) (M_Md_readTwo md bf p1) 0 md et' ∧ (G_Md_readTwo md p1 → GL_Md_entries_33 sz bf p0 p1 (((M_Md_readTwo md bf p1).toInt - (0 : Int32).toInt).toNat + 1) (-1) (M_Md_readTwo md bf p1) 0 md et' → GL_Md_entries_2 md sz bf p0 p1 g (nI i) et) := by
  intro r
  induction r with
  | zero =>
    intro i g et hi hg he
    obtain ⟨g, rfl⟩ : ∃ g', g = g' + 1 := ⟨g - 1, by omega⟩
    have hi2 : i = 11 := by omega
    have c : (11 : Int32) ≤ nI 11 := by decide
    rw [hi2] at he ⊢
    refine ⟨et, he, ?_, fun q1 q2 => ?_⟩
    · rw [L_Md_entries_2, if_pos c] <;> rfl
    · rw [GL_Md_entries_2, if_pos c]
      exact ⟨q1, fun y hy => by rw [hy]; exact q2⟩
  | succ r ih =>
    intro i g et hi hg he
    obtain ⟨g, rfl⟩ : ∃ g', g = g' + 1 := ⟨g - 1, by omega⟩
    have c : ¬ (11 : Int32) ≤ nI i := nI_ge (b := 11) (by omega) (by omega)
    obtain ⟨et', a1, a2, a3⟩ := ih (i + 1) g (upd et i (-1)) (by omega) (by omega) (fun j hj => by
      by_cases q : j = i
      · rw [q]; exact pk_us
      · rw [pk_un q]; exact he j (by omega))
    refine ⟨et', a1, ?_, fun q1 q2 => ?_⟩
    · rw [L_Md_entries_2, if_neg c, nI_1, nI_clamp (by omega)]
      exact a2
    · rw [GL_Md_entries_2, if_neg c, nI_1, nI_clamp (by omega)]
      exact ⟨vp_in_nI (by omega) (by omega), a3 q1 q2⟩
theorem ents_all {rd md : Nat → Int32} {ro : RowS} {sz : Int32} {bf : Nat → Int32} {z k : Nat} (p0 : Int32) (h : FR ro sz bf z) (ho : rd 1 = md 14) (hk : k + 2 + 12 * r2 (md 14) bf k ≤ z) (hn : M_Rd_entriesAt rd ro (lN k) = nI (r2 (md 14) bf k)) (ty ct pl et : Nat → Int32) :
    ((∃ ty' ct' pl' et', M_Rd_takeEntries rd ro ty ct pl (nI k) = (1, rd, ty', ct', pl') ∧ M_Md_entries md sz bf et p0 (nI k) = (1, md, et') ∧ Ents (md 14) bf z ty' ct' pl' et') ∨
     (∃ q t ty' ct' pl' et', FK q ∧ M_Rd_takeEntries rd ro ty ct pl (nI k) = (0, RF rd q t 0, ty', ct', pl') ∧ M_Md_entries md sz bf et p0 (nI k) = (0, MF md q p0 t 0, et'))) ∧ G_Md_entries md sz bf et p0 (nI k) := by
  have hz := h.2.1
  have hv := r2_lt (md 14) bf k
  have hn' : M_Rd_entriesAt rd ro (nI k).toInt64 = nI (r2 (md 14) bf k) := by rw [nI_l (by omega)]; exact hn
  have e0 : (0 : Int32).toInt = 0 := by decide
  have e11 : (((11 : Int32).toInt - (0 : Int32).toInt).toNat + 1) = 12 := by decide
  have e2 : M_Md_readTwo md bf (nI k) = nI (r2 (md 14) bf k) := mr2 md bf (by omega)
  obtain ⟨et', a1, a2, a3⟩ := e2_loop (md := md) (sz := sz) (bf := bf) (p0 := p0) (p1 := nI k) 11 0 12 et (by omega) (by omega) (fun j hj => absurd hj (Nat.not_lt_zero j))
  rw [e2, nI_toInt (by omega), e0] at a2 a3
  have E : Ents (md 14) bf z ty (M_En_forgetAll ct) pl et' := fun j hj => Or.inl ⟨a1 j hj, by
    have := tg_in j hj
    show (if tg j - 256 < 41 then (0 : Int32) else ct (tg j - 256)) = 0
    rw [if_pos (by omega)]⟩
  obtain ⟨b, g⟩ := ent_loop (p0 := p0) h ho hk hn' (r2 (md 14) bf k) 0 (((r2 (md 14) bf k : Int) - 0).toNat + 1) (((r2 (md 14) bf k : Int) - 0).toNat + 1) (-1) ty (M_En_forgetAll ct) pl et' (by omega) (by omega) (by omega) E
  have f1 : M_Rd_takeEntries rd ro ty ct pl (nI k) = L_Rd_takeEntries rd ro (nI k) (((r2 (md 14) bf k : Int) - 0).toNat + 1) (-1) (nI 0) ty (M_En_forgetAll ct) pl := by
    unfold M_Rd_takeEntries
    (try dsimp only)
    rw [hn', nI_toInt (by omega), e0] <;> rfl
  have f2 : M_Md_entries md sz bf et p0 (nI k) = L_Md_entries_33 sz bf p0 (nI k) (((r2 (md 14) bf k : Int) - 0).toNat + 1) (-1) (nI (r2 (md 14) bf k)) (nI 0) md et' := by
    unfold M_Md_entries
    rw [e11]
    exact a2
  refine ⟨?_, ?_⟩
  · rw [f1, f2]; exact b
  · unfold G_Md_entries
    rw [e11]
    exact a3 (g2 md (by omega)) g
-- the numbers of a tag
def vl (o : Int32) (bf : Nat → Int32) (e i : Nat) : Nat := if r2 o bf (e + 2) = 3 then r2 o bf (plc o bf e + 2 * i) else r4 o bf (plc o bf e + 4 * i)
theorem vl_lt (o : Int32) (bf : Nat → Int32) (e i : Nat) : vl o bf e i < 4294967296 := by
  have a := r2_lt o bf (plc o bf e + 2 * i)
  have b := r4_lt o bf (plc o bf e + 4 * i)
  unfold vl
  split <;> omega
theorem fit_val {j T C i P z : Nat} (hj : j < 11) (ht : typ j T = true) (hc : cnt j C = true) (hP : P + C * bs T ≤ z) (hi : i < C ∨ wt j = 5 ∧ i < 2) : (T = 3 → P + 2 * i + 2 ≤ z) ∧ (¬ T = 3 → P + 4 * i + 4 ≤ z) := by
  have hw := wt_in j hj
  have hc1 : 1 ≤ C := by
    simp [cnt] at hc
    omega
  have ht2 : T = wt j ∨ (wt j = 4 ∧ T = 3) := by
    simp [typ] at ht
    omega
  refine ⟨fun h3 => ?_, fun h3 => ?_⟩
  · have eb : bs T = 2 := by rw [h3]; rfl
    rw [eb] at hP
    have : i < C := by
      rcases hi with q | q
      · exact q
      · omega
    omega
  · rcases hi with q | q
    · by_cases h4 : T = 4
      · have eb : bs T = 4 := by rw [h4]; rfl
        rw [eb] at hP
        omega
      · have eb : bs T = 8 := by unfold bs; rw [if_neg h3, if_neg h4]
        rw [eb] at hP
        omega
    · have eb : bs T = 8 := by unfold bs; rw [if_neg h3, if_neg (by omega)]
      rw [eb] at hP
      omega
theorem num_eq {ro : RowS} {sz : Int32} {bf md : Nat → Int32} {z j e i : Nat} {ty ct pl et : Nat → Int32} (h : FR ro sz bf z) (hj : j < 11) (hi : i < r4 (md 14) bf (e + 4) ∨ wt j = 5 ∧ i < 2)
    (q1 : et j = nI e) (q2 : e + 12 ≤ z) (q3 : typ j (r2 (md 14) bf (e + 2)) = true) (q4 : cnt j (r4 (md 14) bf (e + 4)) = true) (q5 : ty (tg j - 256) = nI (r2 (md 14) bf (e + 2))) (q6 : ct (tg j - 256) = nI (r4 (md 14) bf (e + 4))) (q7 : pl (tg j - 256) = nI (plc (md 14) bf e)) (q8 : plc (md 14) bf e + r4 (md 14) bf (e + 4) * bs (r2 (md 14) bf (e + 2)) ≤ z) :
    (∀ d, M_En_number ro ty ct pl (nI (tg j)) (nI i) (md 14) d = lN (vl (md 14) bf e i)) ∧ M_Md_value md bf et (nI j) (nI i) = lN (vl (md 14) bf e i) ∧ G_Md_value md bf et (nI j) (nI i) := by
  have hz := h.2.1
  have ht := tg_in j hj
  obtain ⟨f3, f4⟩ := fit_val hj q3 q4 q8 hi
  have hT := r2_lt (md 14) bf (e + 2)
  have hC := r4_lt (md 14) bf (e + 4)
  have hb := bs_le (r2 (md 14) bf (e + 2))
  have hm : r4 (md 14) bf (e + 4) * bs (r2 (md 14) bf (e + 2)) ≤ 4294967296 * 8 := Nat.mul_le_mul (by omega) hb
  have hc1 : 1 ≤ r4 (md 14) bf (e + 4) ∧ r4 (md 14) bf (e + 4) ≤ 4096 := by
    have := q4
    simp [cnt] at this
    omega
  have es : nI (tg j) - (256 : Int32) = nI (tg j - 256) := pk_sub (b := 256) ht.1
  have k3 : nI (r2 (md 14) bf (e + 2)) = 3 ↔ r2 (md 14) bf (e + 2) = 3 := nI_eq (b := 3) (by omega) (by omega)
  have hi31 : i < 65536 := by
    by_cases c : r2 (md 14) bf (e + 2) = 3
    · have := f3 c; omega
    · have := f4 c; omega
  have hP : plc (md 14) bf e ≤ z := by omega
  have c0 : ¬ nI (r4 (md 14) bf (e + 4)) = 0 := nI_ne0 (by omega) (by omega)
  have e2 : (2 : Int32).toInt64 * (nI i).toInt64 = lN (2 * i) := by
    rw [nI_l (by omega)]
    exact lN_mul 2 i
  have e4 : (4 : Int32).toInt64 * (nI i).toInt64 = lN (4 * i) := by
    rw [nI_l (by omega)]
    exact lN_mul 4 i
  have m2 : (2 : Int32) * nI i = nI (2 * i) := pk_mul 2 i
  have m4 : (4 : Int32) * nI i = nI (4 * i) := pk_mul 4 i
  have a2 : nI e + (2 : Int32) = nI (e + 2) := nI_add e 2
  have a4 : nI e + (4 : Int32) = nI (e + 4) := nI_add e 4
  have a8 : nI e + (8 : Int32) = nI (e + 8) := nI_add e 8
  have ey : lN (r4 (md 14) bf (e + 4)) * (M_Md_sizeOf (nI (r2 (md 14) bf (e + 2)))).toInt64 = lN (r4 (md 14) bf (e + 4) * bs (r2 (md 14) bf (e + 2))) := by rw [(bs_c _ hT).2, nI_l (by omega), lN_mul]
  have k4 : (0 < lg_cmp (lN (r4 (md 14) bf (e + 4) * bs (r2 (md 14) bf (e + 2)))) 4) ↔ ¬ r4 (md 14) bf (e + 4) * bs (r2 (md 14) bf (e + 2)) ≤ 4 := by
    rw [lg_cmp_gt]
    refine (pk_lLT (a := 4) (by omega) (by omega)).trans ?_
    omega
  have b2 : M_Md_readTwo md bf (nI (e + 2)) = nI (r2 (md 14) bf (e + 2)) := mr2 md bf (by omega)
  have b4 : M_Md_readFour md bf (nI (e + 4)) = lN (r4 (md 14) bf (e + 4)) := mr4 md bf (by omega)
  have b8 : M_Md_readFour md bf (nI (e + 8)) = lN (r4 (md 14) bf (e + 8)) := mr4 md bf (by omega)
  have cj : (nI j).toNatClampNeg = j := nI_clamp (by omega)
  have ck : (nI (tg j - 256)).toNatClampNeg = tg j - 256 := nI_clamp (by omega)
  -- the last step, the same for both places
  have tl : (if nI (r2 (md 14) bf (e + 2)) = 3 then (M_Md_readTwo md bf (nI (plc (md 14) bf e) + (2 * nI i))).toInt64 else M_Md_readFour md bf (nI (plc (md 14) bf e) + (4 * nI i))) = lN (vl (md 14) bf e i) ∧ (if nI (r2 (md 14) bf (e + 2)) = 3 then G_Md_readTwo md (nI (plc (md 14) bf e) + (2 * nI i)) else G_Md_readFour md bf (nI (plc (md 14) bf e) + (4 * nI i))) := by
    rw [m2, m4, nI_add, nI_add]
    unfold vl
    by_cases c : r2 (md 14) bf (e + 2) = 3
    · have := f3 c
      have hr := r2_lt (md 14) bf (plc (md 14) bf e + 2 * i)
      rw [if_pos (k3.mpr c), if_pos (k3.mpr c), if_pos c, mr2 md bf (by omega), nI_l (by omega)]
      exact ⟨rfl, g2 md (by omega)⟩
    · have := f4 c
      rw [if_neg (fun q => c (k3.mp q)), if_neg (fun q => c (k3.mp q)), if_neg c, mr4 md bf (by omega)]
      exact ⟨rfl, g4 md bf (by omega)⟩
  refine ⟨fun d => ?_, ?_, ?_⟩
  · unfold M_En_number vl
    rw [es, if_neg (nI_pos (by omega)), if_neg (show ¬ (41 : Int32) ≤ nI (tg j - 256) from nI_ge (b := 41) (by omega) (by omega)), ck, q6, if_neg c0, q5, q7, e2, e4, nI_l (by omega), lN_add, lN_add]
    by_cases c : r2 (md 14) bf (e + 2) = 3
    · have := f3 c
      rw [if_pos (k3.mpr c), if_pos c]
      exact cr2 h (md 14) (by omega)
    · have := f4 c
      rw [if_neg (fun q => c (k3.mp q)), if_neg c]
      exact cr4 h (md 14) (by omega)
  · unfold M_Md_value
    (try dsimp only)
    rw [cj, q1, a2, a4, a8, b2, b4, b8, ey, lN_i]
    unfold plc at tl
    by_cases c : r4 (md 14) bf (e + 4) * bs (r2 (md 14) bf (e + 2)) ≤ 4
    · rw [if_pos c] at tl
      rw [if_neg (fun q => (k4.mp q) c)]
      exact tl.1
    · rw [if_neg c] at tl
      rw [if_pos (k4.mpr c)]
      exact tl.1
  · unfold G_Md_value
    rw [cj, q1]
    refine ⟨vp_in_nI (by omega) (by omega), fun y1 h1 => ?_⟩
    rw [h1, a2, a4, a8]
    refine ⟨g2 md (by omega), fun y2 h2 => ?_⟩
    rw [h2, b2]
    refine ⟨g4 md bf (by omega), fun y3 h3 => ?_⟩
    rw [h3, b4, ey]
    unfold plc at tl
    by_cases c : r4 (md 14) bf (e + 4) * bs (r2 (md 14) bf (e + 2)) ≤ 4
    · rw [if_pos c] at tl
      rw [if_neg (fun q => (k4.mp q) c)]
      intro y5 h5
      rw [h5]
      exact tl.2
    · rw [if_neg c] at tl
      rw [if_pos (k4.mpr c)]
      refine ⟨g4 md bf (by omega), fun y4 h4 => ?_⟩
      rw [h4, b8, lN_i]
      exact tl.2
theorem cof {ct : Nat → Int32} {j : Nat} (hj : j < 11) : M_En_countOf ct (nI (tg j)) = ct (tg j - 256) := by
  have ht := tg_in j hj
  have es : nI (tg j) - (256 : Int32) = nI (tg j - 256) := pk_sub (b := 256) ht.1
  unfold M_En_countOf
  rw [es, if_neg (nI_pos (by omega)), if_neg (show ¬ (41 : Int32) ≤ nI (tg j - 256) from nI_ge (b := 41) (by omega) (by omega)), nI_clamp (by omega)]
/-- a number of a tag, or the one that holds where there is none -/
theorem or_eq {ro : RowS} {sz : Int32} {bf md : Nat → Int32} {z j i dv : Nat} {ty ct pl et : Nat → Int32} (h : FR ro sz bf z) (hj : j < 11) (hi : i = 0 ∨ wt j = 5 ∧ i < 2) (hE : Ent (md 14) bf z j ty ct pl et) (hd : dv < 4294967296) :
    ∃ v, v < 4294967296 ∧ M_En_number ro ty ct pl (nI (tg j)) (nI i) (md 14) (lN dv) = lN v ∧ M_Md_valueOr md bf et (nI j) (nI i) (lN dv) = lN v ∧ G_Md_valueOr md bf et (nI j) (nI i) := by
  have hz := h.2.1
  have ht := tg_in j hj
  have cj : (nI j).toNatClampNeg = j := nI_clamp (by omega)
  have ck : (nI (tg j - 256)).toNatClampNeg = tg j - 256 := nI_clamp (by omega)
  have es : nI (tg j) - (256 : Int32) = nI (tg j - 256) := pk_sub (b := 256) ht.1
  unfold M_Md_valueOr G_Md_valueOr
  rw [cj]
  rcases hE with ⟨q1, q2⟩ | ⟨e, q1, q2, q3, q4, q5, q6, q7, q8⟩
  · refine ⟨dv, hd, ?_, ?_, vp_in_nI (by omega) (by omega), ?_⟩
    · unfold M_En_number
      rw [es, if_neg (nI_pos (by omega)), if_neg (show ¬ (41 : Int32) ≤ nI (tg j - 256) from nI_ge (b := 41) (by omega) (by omega)), ck, q2, if_pos rfl]
    · rw [q1, if_neg (by decide)]
    · rw [q1, if_neg (by decide)]
      trivial
  · have hc1 : 1 ≤ r4 (md 14) bf (e + 4) := by
      have := q4
      simp [cnt] at this
      omega
    obtain ⟨a, b, c⟩ := num_eq (md := md) (i := i) h hj (by rcases hi with q | q; exact Or.inl (by omega); exact Or.inr q) q1 q2 q3 q4 q5 q6 q7 q8
    have p : 0 ≤ et j := by rw [q1]; exact nI_pos' (by omega)
    refine ⟨_, vl_lt (md 14) bf e i, a _, ?_, vp_in_nI (by omega) (by omega), ?_⟩
    · rw [if_pos p]; exact b
    · rw [if_pos p]; exact c
end PRC
section PRD
/-- the strips that were read, on both sides -/
def SI (F : Nat) (rs : RowS) (sp sl : Nat → Int32) : Prop := StOK 8192 rs ∧ rs.2.2 = nI F ∧ F ≤ 8192 ∧ ∀ k, k < F → ∃ a l, rs.2.1 (2 * k) = nI a ∧ sp k = nI a ∧ rs.2.1 (2 * k + 1) = nI l ∧ sl k = nI l ∧ a + l ≤ 65536
theorem SI.room {F : Nat} {rs : RowS} {sp sl : Nat → Int32} (h : SI F rs sp sl) : 2 * F ≤ rs.1 := by
  obtain ⟨h1, h2, h3, -⟩ := h
  have hb := h1.le
  obtain ⟨-, k, hk, hk2⟩ := h1
  rw [h2, nI_eq (by omega) (by omega)] at hk
  omega
theorem SI.add {F : Nat} {rs : RowS} {sp sl : Nat → Int32} (h : SI F rs sp sl) (hF : F < 8192) {a l : Nat} (hal : a + l ≤ 65536) : SI (F + 1) (M_St_add 8192 rs (nI a) (nI l)) (upd sp F (nI a)) (upd sl F (nI l)) := by
  obtain ⟨h1, h2, h3, h4⟩ := h
  obtain ⟨a1, a2, a3, a4, a5⟩ := st_add (M := 8192) h1 rfl (by omega) h2 hF (nI a) (nI l)
  refine ⟨ok_St_add h1 _ _, a1, by omega, fun k hk => ?_⟩
  by_cases c : k = F
  · rw [c]
    exact ⟨a, l, a3, pk_us, a4, pk_us, hal⟩
  · obtain ⟨a', l', b1, b2, b3, b4, b5⟩ := h4 k (by omega)
    exact ⟨a', l', by rw [a2 _ (by omega)]; exact b1, by rw [pk_un c]; exact b2, by rw [a2 _ (by omega)]; exact b3, by rw [pk_un c]; exact b4, b5⟩
section T
variable {rd : Nat → Int32} {ro : RowS} {ty ct pl fs : Nat → Int32} {nu : Nat → Int64} {rs : RowS} {f : Nat} {v3 S : Int32} {a l : Int64}
theorem ts_end (hS : (M_Pn_get nu (rd 2) 6).toInt32 = S) (h : S ≤ v3) : L_Rd_takeStrips rd ro ty ct pl nu (f + 1) v3 rs fs = (1, rd, rs, fs) := by
  rw [L_Rd_takeStrips, hS, if_pos h]
theorem ts_no (hS : (M_Pn_get nu (rd 2) 6).toInt32 = S) (h : ¬ S ≤ v3) (ha : M_En_number ro ty ct pl 273 v3 (rd 1) 0 = a) (hl : M_En_number ro ty ct pl 279 v3 (rd 1) 0 = l) (hc : lg_cmp a 8 < 0 ∨ ¬ lg_cmp (a + l) ro.2.2.toInt64 ≤ 0) : L_Rd_takeStrips rd ro ty ct pl nu (f + 1) v3 rs fs = (0, RF rd 9 273 v3, rs, fs) := by
  rw [L_Rd_takeStrips, hS, if_neg h, ha, hl]
  by_cases c : lg_cmp a 8 < 0
  · rw [if_pos c] <;> rfl
  · rw [if_neg c, if_neg (hc.resolve_left c)] <;> rfl
theorem ts_go (hS : (M_Pn_get nu (rd 2) 6).toInt32 = S) (h : ¬ S ≤ v3) (ha : M_En_number ro ty ct pl 273 v3 (rd 1) 0 = a) (hl : M_En_number ro ty ct pl 279 v3 (rd 1) 0 = l) (h1 : ¬ lg_cmp a 8 < 0) (h2 : lg_cmp (a + l) ro.2.2.toInt64 ≤ 0) : L_Rd_takeStrips rd ro ty ct pl nu (f + 1) v3 rs fs = L_Rd_takeStrips rd ro ty ct pl nu f (v3 + 1) (M_St_add 8192 rs a.toInt32 l.toInt32) fs := by
  rw [L_Rd_takeStrips, hS, if_neg h, ha, hl, if_neg h1, if_pos h2]
end T
section M
variable {md : Nat → Int32} {sz : Int32} {bf mf et sp sl : Nat → Int32} {p0 p1 v3 : Int32} {g : Nat} {a l : Int64}
theorem ms_end (h : p1 ≤ v3) (i1 : vp_in p0 41) (i2 : vp_in (p0 + 1) 41) : L_Md_stripsOf md sz bf mf et p0 p1 (g + 1) v3 sp sl = (1, md, upd mf (p0 + 1).toNatClampNeg (mf p0.toNatClampNeg + p1), sp, sl) ∧ GL_Md_stripsOf md sz bf mf et p0 p1 (g + 1) v3 sp sl := by
  rw [L_Md_stripsOf, GL_Md_stripsOf, if_pos h, if_pos h]
  exact ⟨rfl, i1, i2⟩
theorem ms_no (h : ¬ p1 ≤ v3) (ha : M_Md_value md bf et 9 v3 = a) (hl : M_Md_value md bf et 10 v3 = l) (ga : G_Md_value md bf et 9 v3) (gl : G_Md_value md bf et 10 v3) (hc : lg_cmp a 8 < 0 ∨ ¬ lg_cmp (a + l) sz.toInt64 ≤ 0) : L_Md_stripsOf md sz bf mf et p0 p1 (g + 1) v3 sp sl = (0, MF md 9 p0 273 v3, mf, sp, sl) ∧ GL_Md_stripsOf md sz bf mf et p0 p1 (g + 1) v3 sp sl := by
  refine ⟨?_, ?_⟩
  · rw [L_Md_stripsOf, if_neg h]
    (try dsimp only)
    rw [ha, hl]
    by_cases c : lg_cmp a 8 < 0
    · rw [if_pos c] <;> rfl
    · rw [if_neg c, if_neg (hc.resolve_left c)] <;> rfl
  · rw [GL_Md_stripsOf, if_neg h]
    refine ⟨ga, fun y1 h1 => ?_⟩
    rw [h1, ha]
    refine ⟨gl, fun y2 h2 => ?_⟩
    rw [h2, hl]
    by_cases c : lg_cmp a 8 < 0
    · rw [if_pos c]
      trivial
    · rw [if_neg c, if_neg (hc.resolve_left c)]
      trivial
theorem ms_go (h : ¬ p1 ≤ v3) (ha : M_Md_value md bf et 9 v3 = a) (hl : M_Md_value md bf et 10 v3 = l) (ga : G_Md_value md bf et 9 v3) (gl : G_Md_value md bf et 10 v3) (h1 : ¬ lg_cmp a 8 < 0) (h2 : lg_cmp (a + l) sz.toInt64 ≤ 0) (i1 : vp_in p0 41) (i2 : vp_in (mf p0.toNatClampNeg + v3) 8192) : L_Md_stripsOf md sz bf mf et p0 p1 (g + 1) v3 sp sl = L_Md_stripsOf md sz bf mf et p0 p1 g (v3 + 1) (upd sp (mf p0.toNatClampNeg + v3).toNatClampNeg a.toInt32) (upd sl (mf p0.toNatClampNeg + v3).toNatClampNeg l.toInt32) ∧ (GL_Md_stripsOf md sz bf mf et p0 p1 g (v3 + 1) (upd sp (mf p0.toNatClampNeg + v3).toNatClampNeg a.toInt32) (upd sl (mf p0.toNatClampNeg + v3).toNatClampNeg l.toInt32) → GL_Md_stripsOf md sz bf mf et p0 p1 (g + 1) v3 sp sl) := by
  refine ⟨?_, fun q => ?_⟩
  · rw [L_Md_stripsOf, if_neg h]
    (try dsimp only)
    rw [ha, hl, if_neg h1, if_pos h2]
  · rw [GL_Md_stripsOf, if_neg h]
    refine ⟨ga, fun y1 e1 => ?_⟩
    rw [e1, ha]
    refine ⟨gl, fun y2 e2 => ?_⟩
    rw [e2, hl, if_neg h1, if_pos h2]
    exact ⟨i1, i2, i1, i2, q⟩
end M
theorem strip_loop {rd md : Nat → Int32} {ro : RowS} {sz : Int32} {bf : Nat → Int32} {z p S F : Nat} {ty ct pl et fs mf : Nat → Int32} {nu : Nat → Int64} (h : FR ro sz bf z) (hp : p < 40) (hnu : (M_Pn_get nu (rd 2) 6).toInt32 = nI S) (hmf : mf p = nI F) (hFS : F + S ≤ 8192)
    (hv : ∀ i, i < S → ∃ a l, a < 4294967296 ∧ l < 4294967296 ∧ M_En_number ro ty ct pl 273 (nI i) (rd 1) 0 = lN a ∧ M_Md_value md bf et 9 (nI i) = lN a ∧ G_Md_value md bf et 9 (nI i) ∧ M_En_number ro ty ct pl 279 (nI i) (rd 1) 0 = lN l ∧ M_Md_value md bf et 10 (nI i) = lN l ∧ G_Md_value md bf et 10 (nI i)) :
    ∀ (r i f g : Nat) (rs : RowS) (sp sl : Nat → Int32), i + r = S → r < f → r < g → SI (F + i) rs sp sl →
      ((∃ rs' sp' sl', L_Rd_takeStrips rd ro ty ct pl nu f (nI i) rs fs = (1, rd, rs', fs) ∧ L_Md_stripsOf md sz bf mf et (nI p) (nI S) g (nI i) sp sl = (1, md, upd mf (p + 1) (nI (F + S)), sp', sl') ∧ SI (F + S) rs' sp' sl') ∨
       (∃ q t s rs' sp' sl', FK q ∧ L_Rd_takeStrips rd ro ty ct pl nu f (nI i) rs fs = (0, RF rd q t s, rs', fs) ∧ L_Md_stripsOf md sz bf mf et (nI p) (nI S) g (nI i) sp sl = (0, MF md q (nI p) t s, mf, sp', sl') ∧ StOK 8192 rs')) ∧ GL_Md_stripsOf md sz bf mf et (nI p) (nI S) g (nI i) sp sl := by
  have hz := h.2.1
  have cp : (nI p).toNatClampNeg = p := nI_clamp (by omega)
  have cp1 : (nI p + 1).toNatClampNeg = p + 1 := by rw [nI_1]; exact nI_clamp (by omega)
  have i1 : vp_in (nI p) 41 := vp_in_nI (by omega) (by omega)
  have i2 : vp_in (nI p + 1) 41 := by rw [nI_1]; exact vp_in_nI (by omega) (by omega)
  have es : ro.2.2 = sz := by rw [h.2.2.1, h.2.2.2.1]
  intro r
  induction r with
  | zero =>
    intro i f g rs sp sl hi hf hg hS
    obtain ⟨f, rfl⟩ : ∃ f', f = f' + 1 := ⟨f - 1, by omega⟩
    obtain ⟨g, rfl⟩ : ∃ g', g = g' + 1 := ⟨g - 1, by omega⟩
    have hi2 : i = S := by omega
    rw [hi2] at hS ⊢
    obtain ⟨a, b⟩ := ms_end (md := md) (sz := sz) (bf := bf) (mf := mf) (et := et) (sp := sp) (sl := sl) (g := g) (Int32.le_refl (nI S)) i1 i2
    rw [cp, cp1, hmf, nI_add] at a
    exact ⟨Or.inl ⟨rs, sp, sl, ts_end hnu (Int32.le_refl _), a, hS⟩, b⟩
  | succ r ih =>
    intro i f g rs sp sl hi hf hg hS
    obtain ⟨f, rfl⟩ : ∃ f', f = f' + 1 := ⟨f - 1, by omega⟩
    obtain ⟨g, rfl⟩ : ∃ g', g = g' + 1 := ⟨g - 1, by omega⟩
    have c : ¬ nI S ≤ nI i := nI_ge (by omega) (by omega)
    obtain ⟨a, l, ha, hl, v1, v2, v3, v4, v5, v6⟩ := hv i (by omega)
    have k1 : (lg_cmp (lN a) 8 < 0) ↔ a < 8 := by
      rw [lg_cmp_lt]
      exact pk_lLT (b := 8) (by omega) (by omega)
    have k2 : (lg_cmp (lN a + lN l) sz.toInt64 ≤ 0) ↔ a + l ≤ z := by
      rw [lg_cmp_le, h.2.2.2.1, nI_l (by omega), lN_add, pk_lLE (by omega) (by omega)]
    by_cases c1 : a < 8 ∨ ¬ a + l ≤ z
    · have c2 : lg_cmp (lN a) 8 < 0 ∨ ¬ lg_cmp (lN a + lN l) sz.toInt64 ≤ 0 := by
        rcases c1 with q | q
        · exact Or.inl (k1.mpr q)
        · exact Or.inr (fun w => q (k2.mp w))
      have q1 := ts_no (fs := fs) (rs := rs) (f := f) hnu c v1 v4 (by rw [es]; exact c2)
      obtain ⟨q2, q3⟩ := ms_no (mf := mf) (p0 := nI p) (sp := sp) (sl := sl) (g := g) c v2 v5 v3 v6 c2
      exact ⟨Or.inr ⟨9, 273, nI i, rs, sp, sl, fk9, q1, q2, hS.1⟩, q3⟩
    · have c2 : ¬ a < 8 := fun q => c1 (Or.inl q)
      have c3 : a + l ≤ z := Decidable.of_not_not (fun q => c1 (Or.inr q))
      have q1 := ts_go (fs := fs) (rs := rs) (f := f) hnu c v1 v4 (fun w => c2 (k1.mp w)) (by rw [es]; exact k2.mpr c3)
      have cF : (mf (nI p).toNatClampNeg + nI i).toNatClampNeg = F + i := by rw [cp, hmf, nI_add]; exact nI_clamp (by omega)
      have iF : vp_in (mf (nI p).toNatClampNeg + nI i) 8192 := by rw [cp, hmf, nI_add]; exact vp_in_nI (by omega) (by omega)
      obtain ⟨q2, q3⟩ := ms_go (sz := sz) (mf := mf) (p0 := nI p) (sp := sp) (sl := sl) (g := g) c v2 v5 v3 v6 (fun w => c2 (k1.mp w)) (k2.mpr c3) i1 iF
      rw [cF, lN_i, lN_i, nI_1] at q2 q3
      rw [lN_i, lN_i, nI_1] at q1
      obtain ⟨b1, b2⟩ := ih (i + 1) f g _ _ _ (by omega) (by omega) (by omega) (hS.add (by omega) (show a + l ≤ 65536 by omega))
      rw [q1, q2]
      exact ⟨b1, q3 b2⟩
-- the numbers of a page
theorem pn_set {nu : Nat → Int64} {p w : Nat} (hp : p < 40) (hw : w < 13) (v : Int64) : M_Pn_set nu (nI p) (nI w) v = vp_updL nu (13 * p + w) v := by
  have e : (nI p * 13) + nI w = nI (13 * p + w) := by
    have e13 : nI p * (13 : Int32) = nI (p * 13) := pk_mul p 13
    rw [e13, nI_add, Nat.mul_comm]
  unfold M_Pn_set
  rw [e, if_neg (nI_pos (by omega)), if_neg (nI_ge (by omega) (by omega)), nI_clamp (by omega)]
theorem keep_set {rd : Nat → Int32} {nu : Nat → Int64} {p w : Nat} (h : rd 2 = nI p) (hp : p < 40) (hw : w < 13) (v : Int64) : M_Rd_keep rd nu (nI w) v = vp_updL nu (13 * p + w) v := by
  unfold M_Rd_keep
  (try dsimp only)
  rw [h]
  exact pn_set hp hw v
theorem gU {nu : Nat → Int64} {p w w' : Nat} {v : Int64} (h : ¬ w = w') : vp_updL nu (13 * p + w') v (13 * p + w) = nu (13 * p + w) := pk_uLn (by omega)
/-- the thirteen numbers, in the class's order -/
def NC (nu : Nat → Int64) (p : Nat) (a0 a1 a2 a3 a4 a7 a8 a9 a10 a11 : Int64) : Nat → Int64 :=
  vp_updL (vp_updL (vp_updL (vp_updL (vp_updL (vp_updL (vp_updL (vp_updL (vp_updL (vp_updL nu (13 * p + 0) a0) (13 * p + 1) a1) (13 * p + 2) a2) (13 * p + 3) a3) (13 * p + 4) a4) (13 * p + 7) a7) (13 * p + 8) a8) (13 * p + 9) a9) (13 * p + 10) a10) (13 * p + 11) a11
def NX (nu : Nat → Int64) (p : Nat) (a0 a1 a2 a3 a4 a5 a6 a7 a8 a9 a10 a11 a12 : Int64) : Nat → Int64 :=
  vp_updL (vp_updL (vp_updL (NC nu p a0 a1 a2 a3 a4 a7 a8 a9 a10 a11) (13 * p + 5) a5) (13 * p + 6) a6) (13 * p + 12) a12
section N
variable {nu : Nat → Int64} {p : Nat} {a0 a1 a2 a3 a4 a5 a6 a7 a8 a9 a10 a11 a12 : Int64}
theorem nc_1 : NC nu p a0 a1 a2 a3 a4 a7 a8 a9 a10 a11 (13 * p + 1) = a1 := by
  unfold NC
  repeat (first | exact pk_uLs | refine (gU (by decide)).trans ?_)
theorem nx_0 : NX nu p a0 a1 a2 a3 a4 a5 a6 a7 a8 a9 a10 a11 a12 (13 * p + 0) = a0 := by
  unfold NX NC
  repeat (first | exact pk_uLs | refine (gU (by decide)).trans ?_)
theorem nx_1 : NX nu p a0 a1 a2 a3 a4 a5 a6 a7 a8 a9 a10 a11 a12 (13 * p + 1) = a1 := by
  unfold NX NC
  repeat (first | exact pk_uLs | refine (gU (by decide)).trans ?_)
theorem nx_2 : NX nu p a0 a1 a2 a3 a4 a5 a6 a7 a8 a9 a10 a11 a12 (13 * p + 2) = a2 := by
  unfold NX NC
  repeat (first | exact pk_uLs | refine (gU (by decide)).trans ?_)
theorem nx_3 : NX nu p a0 a1 a2 a3 a4 a5 a6 a7 a8 a9 a10 a11 a12 (13 * p + 3) = a3 := by
  unfold NX NC
  repeat (first | exact pk_uLs | refine (gU (by decide)).trans ?_)
theorem nx_4 : NX nu p a0 a1 a2 a3 a4 a5 a6 a7 a8 a9 a10 a11 a12 (13 * p + 4) = a4 := by
  unfold NX NC
  repeat (first | exact pk_uLs | refine (gU (by decide)).trans ?_)
theorem nx_5 : NX nu p a0 a1 a2 a3 a4 a5 a6 a7 a8 a9 a10 a11 a12 (13 * p + 5) = a5 := by
  unfold NX NC
  repeat (first | exact pk_uLs | refine (gU (by decide)).trans ?_)
theorem nx_6 : NX nu p a0 a1 a2 a3 a4 a5 a6 a7 a8 a9 a10 a11 a12 (13 * p + 6) = a6 := by
  unfold NX NC
  repeat (first | exact pk_uLs | refine (gU (by decide)).trans ?_)
theorem nx_7 : NX nu p a0 a1 a2 a3 a4 a5 a6 a7 a8 a9 a10 a11 a12 (13 * p + 7) = a7 := by
  unfold NX NC
  repeat (first | exact pk_uLs | refine (gU (by decide)).trans ?_)
theorem nx_8 : NX nu p a0 a1 a2 a3 a4 a5 a6 a7 a8 a9 a10 a11 a12 (13 * p + 8) = a8 := by
  unfold NX NC
  repeat (first | exact pk_uLs | refine (gU (by decide)).trans ?_)
theorem nx_9 : NX nu p a0 a1 a2 a3 a4 a5 a6 a7 a8 a9 a10 a11 a12 (13 * p + 9) = a9 := by
  unfold NX NC
  repeat (first | exact pk_uLs | refine (gU (by decide)).trans ?_)
theorem nx_10 : NX nu p a0 a1 a2 a3 a4 a5 a6 a7 a8 a9 a10 a11 a12 (13 * p + 10) = a10 := by
  unfold NX NC
  repeat (first | exact pk_uLs | refine (gU (by decide)).trans ?_)
theorem nx_11 : NX nu p a0 a1 a2 a3 a4 a5 a6 a7 a8 a9 a10 a11 a12 (13 * p + 11) = a11 := by
  unfold NX NC
  repeat (first | exact pk_uLs | refine (gU (by decide)).trans ?_)
theorem nx_12 : NX nu p a0 a1 a2 a3 a4 a5 a6 a7 a8 a9 a10 a11 a12 (13 * p + 12) = a12 := by
  unfold NX NC
  repeat (first | exact pk_uLs | refine (gU (by decide)).trans ?_)
theorem nx_low {k : Nat} (hk : k < 13 * p) : NX nu p a0 a1 a2 a3 a4 a5 a6 a7 a8 a9 a10 a11 a12 k = nu k := by
  unfold NX NC
  repeat (refine (pk_uLn (by omega)).trans ?_)
  rfl
/-- the twelve numbers, in the reference's order, and the thirteenth -/
def NM (mn : Nat → Int64) (p : Nat) (a0 a1 a2 a3 a4 a5 a6 a7 a8 a9 a10 a11 : Int64) : Nat → Int64 :=
  vp_updL (vp_updL (vp_updL (vp_updL (vp_updL (vp_updL (vp_updL (vp_updL (vp_updL (vp_updL (vp_updL (vp_updL mn (13 * p + 0) a0) (13 * p + 1) a1) (13 * p + 2) a2) (13 * p + 3) a3) (13 * p + 4) a4) (13 * p + 5) a5) (13 * p + 6) a6) (13 * p + 7) a7) (13 * p + 8) a8) (13 * p + 9) a9) (13 * p + 10) a10) (13 * p + 11) a11
theorem nm_low {k : Nat} (hk : k < 13 * p) : NM nu p a0 a1 a2 a3 a4 a5 a6 a7 a8 a9 a10 a11 k = nu k := by
  unfold NM
  repeat (refine (pk_uLn (by omega)).trans ?_)
  rfl
theorem nm_6 : NM nu p a0 a1 a2 a3 a4 a5 a6 a7 a8 a9 a10 a11 (13 * p + 6) = a6 := by
  unfold NM
  repeat (first | exact pk_uLs | refine (gU (by decide)).trans ?_)
theorem nm_eq {mn : Nat → Int64} : ∀ w, w < 12 → NX nu p a0 a1 a2 a3 a4 a5 a6 a7 a8 a9 a10 a11 a12 (13 * p + w) = NM mn p a0 a1 a2 a3 a4 a5 a6 a7 a8 a9 a10 a11 (13 * p + w) := by
  intro w hw
  rcases (show w = 0 ∨ w = 1 ∨ w = 2 ∨ w = 3 ∨ w = 4 ∨ w = 5 ∨ w = 6 ∨ w = 7 ∨ w = 8 ∨ w = 9 ∨ w = 10 ∨ w = 11 by omega) with rfl | rfl | rfl | rfl | rfl | rfl | rfl | rfl | rfl | rfl | rfl | rfl
  · refine nx_0.trans (Eq.symm ?_); unfold NM; repeat (first | exact pk_uLs | refine (gU (by decide)).trans ?_)
  · refine nx_1.trans (Eq.symm ?_); unfold NM; repeat (first | exact pk_uLs | refine (gU (by decide)).trans ?_)
  · refine nx_2.trans (Eq.symm ?_); unfold NM; repeat (first | exact pk_uLs | refine (gU (by decide)).trans ?_)
  · refine nx_3.trans (Eq.symm ?_); unfold NM; repeat (first | exact pk_uLs | refine (gU (by decide)).trans ?_)
  · refine nx_4.trans (Eq.symm ?_); unfold NM; repeat (first | exact pk_uLs | refine (gU (by decide)).trans ?_)
  · refine nx_5.trans (Eq.symm ?_); unfold NM; repeat (first | exact pk_uLs | refine (gU (by decide)).trans ?_)
  · refine nx_6.trans (Eq.symm ?_); unfold NM; repeat (first | exact pk_uLs | refine (gU (by decide)).trans ?_)
  · refine nx_7.trans (Eq.symm ?_); unfold NM; repeat (first | exact pk_uLs | refine (gU (by decide)).trans ?_)
  · refine nx_8.trans (Eq.symm ?_); unfold NM; repeat (first | exact pk_uLs | refine (gU (by decide)).trans ?_)
  · refine nx_9.trans (Eq.symm ?_); unfold NM; repeat (first | exact pk_uLs | refine (gU (by decide)).trans ?_)
  · refine nx_10.trans (Eq.symm ?_); unfold NM; repeat (first | exact pk_uLs | refine (gU (by decide)).trans ?_)
  · refine nx_11.trans (Eq.symm ?_); unfold NM; repeat (first | exact pk_uLs | refine (gU (by decide)).trans ?_)
end N
/-- the tag of the first number that a page can not have -/
def wtN (w h c i f r u a d : Nat) : Nat := if w < 1 ∨ 20000 < w then 256 else if h < 1 ∨ 20000 < h then 257 else if ¬ c = 1 ∧ ¬ c = 4 then 259 else if 1 < i then 262 else if f < 1 ∨ 2 < f then 266 else if r = 0 then 278 else if u < 1 ∨ 3 < u then 296 else if a = 0 then 282 else if d = 0 then 283 else 0
theorem wt_le (w h c i f r u a d : Nat) : wtN w h c i f r u a d ≤ 296 := by
  unfold wtN
  repeat (split; omega)
  omega
theorem wt_0 {w h c i f r u a d : Nat} (q : wtN w h c i f r u a d = 0) : 1 ≤ h ∧ h ≤ 20000 ∧ 1 ≤ r := by
  unfold wtN at q
  by_cases c0 : w < 1 ∨ 20000 < w
  · rw [if_pos c0] at q; omega
  rw [if_neg c0] at q
  by_cases c1 : h < 1 ∨ 20000 < h
  · rw [if_pos c1] at q; omega
  rw [if_neg c1] at q
  by_cases c2 : ¬ c = 1 ∧ ¬ c = 4
  · rw [if_pos c2] at q; omega
  rw [if_neg c2] at q
  by_cases c3 : 1 < i
  · rw [if_pos c3] at q; omega
  rw [if_neg c3] at q
  by_cases c4 : f < 1 ∨ 2 < f
  · rw [if_pos c4] at q; omega
  rw [if_neg c4] at q
  by_cases c5 : r = 0
  · rw [if_pos c5] at q; omega
  omega
theorem win_iff {x a b : Nat} (hx : x < 4294967296) (ha : a < 65536) (hb : b < 65536) : M_PF_isWithin (lN x) (lN a) (lN b) = 0 ↔ x < a ∨ b < x := by
  rw [within_iff]
  exact or_congr (pk_lLT (by omega) (by omega)) (pk_lLT (by omega) (by omega))
theorem wt_class {X : Nat → Int64} {P : Int32} {w h c i f r u a d : Nat} (hw : w < 4294967296) (hh : h < 4294967296) (hc : c < 4294967296) (hi : i < 4294967296) (hf : f < 4294967296) (hr : r < 4294967296) (hu : u < 4294967296) (ha : a < 4294967296) (hd : d < 4294967296)
    (x0 : M_Pn_get X P 0 = lN w) (x1 : M_Pn_get X P 1 = lN h) (x2 : M_Pn_get X P 2 = lN c) (x3 : M_Pn_get X P 3 = lN i) (x4 : M_Pn_get X P 4 = lN f) (x5 : M_Pn_get X P 5 = lN (if h < r then h else r)) (x7 : M_Pn_get X P 7 = lN u) (x9 : M_Pn_get X P 9 = lN a) (x11 : M_Pn_get X P 11 = lN d) :
    M_Pn_wrongTag X P = nI (wtN w h c i f r u a d) := by
  have k0 : M_PF_isWithin (lN w) 1 20000 = 0 ↔ w < 1 ∨ 20000 < w := win_iff (a := 1) (b := 20000) hw (by omega) (by omega)
  have k1 : M_PF_isWithin (lN h) 1 20000 = 0 ↔ h < 1 ∨ 20000 < h := win_iff (a := 1) (b := 20000) hh (by omega) (by omega)
  have k2 : lg_cmp (lN c) 1 = 0 ↔ c = 1 := by rw [lg_cmp_eq]; exact pk_lEQ (b := 1) (by omega) (by omega)
  have k2' : lg_cmp (lN c) 4 = 0 ↔ c = 4 := by rw [lg_cmp_eq]; exact pk_lEQ (b := 4) (by omega) (by omega)
  have k3 : M_PF_isWithin (lN i) 0 1 = 0 ↔ 1 < i := (win_iff (a := 0) (b := 1) hi (by omega) (by omega)).trans ⟨fun q => q.elim (fun q => absurd q (Nat.not_lt_zero i)) id, Or.inr⟩
  have k4 : M_PF_isWithin (lN f) 1 2 = 0 ↔ f < 1 ∨ 2 < f := win_iff (a := 1) (b := 2) hf (by omega) (by omega)
  have k5 : lg_cmp (lN (if h < r then h else r)) 0 = 0 ↔ (if h < r then h else r) = 0 := by
    rw [lg_cmp_eq]
    exact pk_lEQ (b := 0) (by split <;> omega) (by omega)
  have k7 : M_PF_isWithin (lN u) 1 3 = 0 ↔ u < 1 ∨ 3 < u := win_iff (a := 1) (b := 3) hu (by omega) (by omega)
  have k9 : lg_cmp (lN a) 0 = 0 ↔ a = 0 := by rw [lg_cmp_eq]; exact pk_lEQ (b := 0) (by omega) (by omega)
  have k11 : lg_cmp (lN d) 0 = 0 ↔ d = 0 := by rw [lg_cmp_eq]; exact pk_lEQ (b := 0) (by omega) (by omega)
  unfold M_Pn_wrongTag wtN
  rw [x0, x1, x2, x3, x4, x5, x7, x9, x11]
  by_cases c0 : w < 1 ∨ 20000 < w
  · rw [if_pos (k0.mpr c0), if_pos c0] <;> rfl
  rw [if_neg (fun q => c0 (k0.mp q)), if_neg c0]
  by_cases c1 : h < 1 ∨ 20000 < h
  · rw [if_pos (k1.mpr c1), if_pos c1] <;> rfl
  rw [if_neg (fun q => c1 (k1.mp q)), if_neg c1]
  have k5' : (if h < r then h else r) = 0 ↔ r = 0 := by split <;> omega
  have k6 := k5.trans k5'
  -- behind the code
  have rest : ∀ R : Int32, R = (if M_PF_isWithin (lN i) 0 1 = 0 then 262 else if M_PF_isWithin (lN f) 1 2 = 0 then 266 else if lg_cmp (lN (if h < r then h else r)) 0 = 0 then 278 else if M_PF_isWithin (lN u) 1 3 = 0 then 296 else if lg_cmp (lN a) 0 = 0 then 282 else if lg_cmp (lN d) 0 = 0 then 283 else 0) → R = nI (if 1 < i then 262 else if f < 1 ∨ 2 < f then 266 else if r = 0 then 278 else if u < 1 ∨ 3 < u then 296 else if a = 0 then 282 else if d = 0 then 283 else 0) := by
    intro R hR
    rw [hR]
    by_cases c3 : 1 < i
    · rw [if_pos (k3.mpr c3), if_pos c3] <;> rfl
    rw [if_neg (fun q => c3 (k3.mp q)), if_neg c3]
    by_cases c4 : f < 1 ∨ 2 < f
    · rw [if_pos (k4.mpr c4), if_pos c4] <;> rfl
    rw [if_neg (fun q => c4 (k4.mp q)), if_neg c4]
    by_cases c5 : r = 0
    · rw [if_pos (k6.mpr c5), if_pos c5] <;> rfl
    rw [if_neg (fun q => c5 (k6.mp q)), if_neg c5]
    by_cases c7 : u < 1 ∨ 3 < u
    · rw [if_pos (k7.mpr c7), if_pos c7] <;> rfl
    rw [if_neg (fun q => c7 (k7.mp q)), if_neg c7]
    by_cases c9 : a = 0
    · rw [if_pos (k9.mpr c9), if_pos c9] <;> rfl
    rw [if_neg (fun q => c9 (k9.mp q)), if_neg c9]
    by_cases c11 : d = 0
    · rw [if_pos (k11.mpr c11), if_pos c11] <;> rfl
    rw [if_neg (fun q => c11 (k11.mp q)), if_neg c11] <;> rfl
  by_cases c2 : c = 1
  · rw [if_pos (k2.mpr c2), if_neg (show ¬ (¬ c = 1 ∧ ¬ c = 4) from fun q => q.1 c2)]
    exact rest _ rfl
  · rw [if_neg (fun q => c2 (k2.mp q))]
    by_cases c2' : c = 4
    · rw [if_pos (k2'.mpr c2'), if_neg (show ¬ (¬ c = 1 ∧ ¬ c = 4) from fun q => q.2 c2')]
      exact rest _ rfl
    · rw [if_neg (fun q => c2' (k2'.mp q)), if_pos ⟨c2, c2'⟩] <;> rfl
theorem tn_all {rd : Nat → Int32} {ro : RowS} {ty ct pl : Nat → Int32} {nu : Nat → Int64} {p : Nat} {q : Int64} (h2 : rd 2 = nI p) (hp : p < 40) {w h c i f u x a y d r : Nat} (hw : w < 4294967296) (hh : h < 4294967296) (hc : c < 4294967296) (hi : i < 4294967296) (hf : f < 4294967296) (hr : r < 4294967296) (hu : u < 4294967296) (ha : a < 4294967296) (hd : d < 4294967296)
    (e0 : M_En_number ro ty ct pl 256 0 (rd 1) 0 = lN w) (e1 : M_En_number ro ty ct pl 257 0 (rd 1) 0 = lN h) (e2 : M_En_number ro ty ct pl 259 0 (rd 1) 1 = lN c) (e3 : M_En_number ro ty ct pl 262 0 (rd 1) 0 = lN i) (e4 : M_En_number ro ty ct pl 266 0 (rd 1) 1 = lN f) (e7 : M_En_number ro ty ct pl 296 0 (rd 1) 2 = lN u) (e8 : M_En_number ro ty ct pl 282 0 (rd 1) 300 = lN x) (e9 : M_En_number ro ty ct pl 282 1 (rd 1) 1 = lN a) (e10 : M_En_number ro ty ct pl 283 0 (rd 1) 300 = lN y) (e11 : M_En_number ro ty ct pl 283 1 (rd 1) 1 = lN d) (eR : M_En_number ro ty ct pl 278 0 (rd 1) (lN h) = lN r) :
    ∃ X, X = NX nu p (lN w) (lN h) (lN c) (lN i) (lN f) (lN (if h < r then h else r)) (M_PF_stripsOf (lN h) (lN (if h < r then h else r))) (lN u) (lN x) (lN a) (lN y) (lN d) q ∧ M_Rd_takeNumbers rd ro ty ct pl nu q = if wtN w h c i f r u a d = 0 then (1, rd, X) else (0, RF rd 7 (nI (wtN w h c i f r u a d)) 0, X) := by
  have k0 : ∀ nu v, M_Rd_keep rd nu 0 v = vp_updL nu (13 * p + 0) v := fun nu v => keep_set (w := 0) h2 hp (by omega) v
  have k1 : ∀ nu v, M_Rd_keep rd nu 1 v = vp_updL nu (13 * p + 1) v := fun nu v => keep_set (w := 1) h2 hp (by omega) v
  have k2 : ∀ nu v, M_Rd_keep rd nu 2 v = vp_updL nu (13 * p + 2) v := fun nu v => keep_set (w := 2) h2 hp (by omega) v
  have k3 : ∀ nu v, M_Rd_keep rd nu 3 v = vp_updL nu (13 * p + 3) v := fun nu v => keep_set (w := 3) h2 hp (by omega) v
  have k4 : ∀ nu v, M_Rd_keep rd nu 4 v = vp_updL nu (13 * p + 4) v := fun nu v => keep_set (w := 4) h2 hp (by omega) v
  have k5 : ∀ nu v, M_Rd_keep rd nu 5 v = vp_updL nu (13 * p + 5) v := fun nu v => keep_set (w := 5) h2 hp (by omega) v
  have k6 : ∀ nu v, M_Rd_keep rd nu 6 v = vp_updL nu (13 * p + 6) v := fun nu v => keep_set (w := 6) h2 hp (by omega) v
  have k7 : ∀ nu v, M_Rd_keep rd nu 7 v = vp_updL nu (13 * p + 7) v := fun nu v => keep_set (w := 7) h2 hp (by omega) v
  have k8 : ∀ nu v, M_Rd_keep rd nu 8 v = vp_updL nu (13 * p + 8) v := fun nu v => keep_set (w := 8) h2 hp (by omega) v
  have k9 : ∀ nu v, M_Rd_keep rd nu 9 v = vp_updL nu (13 * p + 9) v := fun nu v => keep_set (w := 9) h2 hp (by omega) v
  have k10 : ∀ nu v, M_Rd_keep rd nu 10 v = vp_updL nu (13 * p + 10) v := fun nu v => keep_set (w := 10) h2 hp (by omega) v
  have k11 : ∀ nu v, M_Rd_keep rd nu 11 v = vp_updL nu (13 * p + 11) v := fun nu v => keep_set (w := 11) h2 hp (by omega) v
  have k12 : ∀ nu v, M_Rd_keep rd nu 12 v = vp_updL nu (13 * p + 12) v := fun nu v => keep_set (w := 12) h2 hp (by omega) v
  have g1 : M_Pn_get (vp_updL (vp_updL (vp_updL (vp_updL (vp_updL (vp_updL (vp_updL (vp_updL (vp_updL (vp_updL nu (13 * p + 0) (lN w)) (13 * p + 1) (lN h)) (13 * p + 2) (lN c)) (13 * p + 3) (lN i)) (13 * p + 4) (lN f)) (13 * p + 7) (lN u)) (13 * p + 8) (lN x)) (13 * p + 9) (lN a)) (13 * p + 10) (lN y)) (13 * p + 11) (lN d)) (rd 2) 1 = lN h := by
    rw [h2]
    exact (pn_get (w := 1) hp (by omega)).trans nc_1
  have em : (if lN h < lN r then lN h else lN r) = lN (if h < r then h else r) := by
    by_cases q : h < r
    · rw [if_pos q, if_pos ((pk_lLT (by omega) (by omega)).mpr q)]
    · rw [if_neg q, if_neg (fun t => q ((pk_lLT (by omega) (by omega)).mp t))]
  obtain ⟨X, hX⟩ : ∃ X, X = NX nu p (lN w) (lN h) (lN c) (lN i) (lN f) (lN (if h < r then h else r)) (M_PF_stripsOf (lN h) (lN (if h < r then h else r))) (lN u) (lN x) (lN a) (lN y) (lN d) q := ⟨_, rfl⟩
  have get : ∀ k v, k < 13 → X (13 * p + k) = v → M_Pn_get X (rd 2) (nI k) = v := by
    intro k v hk e
    rw [h2, pn_get hp hk]
    exact e
  have wt : M_Pn_wrongTag X (rd 2) = nI (wtN w h c i f r u a d) := by
    refine wt_class hw hh hc hi hf hr hu ha hd ?_ ?_ ?_ ?_ ?_ ?_ ?_ ?_ ?_
    · exact get 0 _ (by omega) (by rw [hX]; exact nx_0)
    · exact get 1 _ (by omega) (by rw [hX]; exact nx_1)
    · exact get 2 _ (by omega) (by rw [hX]; exact nx_2)
    · exact get 3 _ (by omega) (by rw [hX]; exact nx_3)
    · exact get 4 _ (by omega) (by rw [hX]; exact nx_4)
    · exact get 5 _ (by omega) (by rw [hX]; exact nx_5)
    · exact get 7 _ (by omega) (by rw [hX]; exact nx_7)
    · exact get 9 _ (by omega) (by rw [hX]; exact nx_9)
    · exact get 11 _ (by omega) (by rw [hX]; exact nx_11)
  refine ⟨X, hX, ?_⟩
  unfold NX NC at hX
  unfold M_Rd_takeNumbers
  (try dsimp only)
  rw [e0, e1, e2, e3, e4, e7, e8, e9, e10, e11, k0, k1, k2, k3, k4, k7, k8, k9, k10, k11, g1, eR, em, k5, k6, k12, ← hX, wt]
  have hl := wt_le w h c i f r u a d
  by_cases t : wtN w h c i f r u a d = 0
  · rw [if_pos t, t, if_pos (by decide)]
  · rw [if_neg t, if_neg (nI_ne0 (by omega) (by omega)), refuse_val, if_pos p00] <;> rfl
end PRD
section PRE
section K
variable {md : Nat → Int32} {sz : Int32} {bf : Nat → Int32} {mn : Nat → Int64} {mf sp sl et : Nat → Int32} {P : Int32} {w h c i f r u x a y d : Nat}
theorem k330_bad {t : Int32} (ht : ¬ t ≤ 0) {v3 v5 v7 v9 v11 v13 v15 : Int64} : K_Md_values_330 md sz bf mn mf sp sl et P v3 v5 v7 v9 v11 v13 v15 t = (0, MF md 7 P t 0, mn, mf, sp, sl) ∧ GK_Md_values_330 md sz bf mn mf sp sl et P v3 v5 v7 v9 v11 v13 v15 t := by
  unfold K_Md_values_330 GK_Md_values_330
  rw [if_neg ht, if_neg ht]
  exact ⟨rfl, trivial⟩
theorem k206 (hi : i < 4294967296) (hf : f < 4294967296) (hr : r < 4294967296) (hu : u < 4294967296) (ha : a < 4294967296) (hd : d < 4294967296) {v3 v5 v7 : Int64} (e7 : M_Md_valueOr md bf et 7 1 1 = lN a) (e8 : M_Md_valueOr md bf et 8 1 1 = lN d) (g7 : G_Md_valueOr md bf et 7 1) (g8 : G_Md_valueOr md bf et 8 1) :
    K_Md_values_206 md sz bf mn mf sp sl et P v3 v5 v7 (lN i) (lN f) (lN r) (lN u) = K_Md_values_330 md sz bf mn mf sp sl et P v3 v5 v7 (lN i) (lN f) (lN r) (lN u) (nI (if 1 < i then 262 else if f < 1 ∨ 2 < f then 266 else if r = 0 then 278 else if u < 1 ∨ 3 < u then 296 else if a = 0 then 282 else if d = 0 then 283 else 0)) ∧
    (GK_Md_values_330 md sz bf mn mf sp sl et P v3 v5 v7 (lN i) (lN f) (lN r) (lN u) (nI (if 1 < i then 262 else if f < 1 ∨ 2 < f then 266 else if r = 0 then 278 else if u < 1 ∨ 3 < u then 296 else if a = 0 then 282 else if d = 0 then 283 else 0)) → GK_Md_values_206 md sz bf mn mf sp sl et P v3 v5 v7 (lN i) (lN f) (lN r) (lN u)) := by
  have k3 : lg_cmp (lN i) 1 ≤ 0 ↔ i ≤ 1 := by rw [lg_cmp_le]; exact pk_lLE (b := 1) (by omega) (by omega)
  have k4 : lg_cmp (lN f) 1 < 0 ↔ f < 1 := by rw [lg_cmp_lt]; exact pk_lLT (b := 1) (by omega) (by omega)
  have k4' : lg_cmp (lN f) 2 ≤ 0 ↔ f ≤ 2 := by rw [lg_cmp_le]; exact pk_lLE (b := 2) (by omega) (by omega)
  have k5 : lg_cmp (lN r) 0 = 0 ↔ r = 0 := by rw [lg_cmp_eq]; exact pk_lEQ (b := 0) (by omega) (by omega)
  have k7 : lg_cmp (lN u) 1 < 0 ↔ u < 1 := by rw [lg_cmp_lt]; exact pk_lLT (b := 1) (by omega) (by omega)
  have k7' : lg_cmp (lN u) 3 ≤ 0 ↔ u ≤ 3 := by rw [lg_cmp_le]; exact pk_lLE (b := 3) (by omega) (by omega)
  have k9 : lg_cmp (lN a) 0 = 0 ↔ a = 0 := by rw [lg_cmp_eq]; exact pk_lEQ (b := 0) (by omega) (by omega)
  have k11 : lg_cmp (lN d) 0 = 0 ↔ d = 0 := by rw [lg_cmp_eq]; exact pk_lEQ (b := 0) (by omega) (by omega)
  unfold K_Md_values_206 GK_Md_values_206
  rw [e7, e8]
  by_cases c3 : 1 < i
  · have q : ¬ lg_cmp (lN i) 1 ≤ 0 := fun t => absurd (k3.mp t) (by omega)
    rw [if_neg q, if_neg q, if_pos c3]
    exact ⟨rfl, id⟩
  rw [if_pos (k3.mpr (by omega)), if_pos (k3.mpr (by omega)), if_neg c3]
  by_cases c4 : f < 1
  · rw [if_pos (k4.mpr c4), if_pos (k4.mpr c4), if_pos (Or.inl c4)]
    exact ⟨rfl, id⟩
  rw [if_neg (fun t => c4 (k4.mp t)), if_neg (fun t => c4 (k4.mp t))]
  by_cases c4' : 2 < f
  · have q : ¬ lg_cmp (lN f) 2 ≤ 0 := fun t => absurd (k4'.mp t) (by omega)
    rw [if_neg q, if_neg q, if_pos (Or.inr c4')]
    exact ⟨rfl, id⟩
  rw [if_pos (k4'.mpr (by omega)), if_pos (k4'.mpr (by omega)), if_neg (show ¬ (f < 1 ∨ 2 < f) by omega)]
  by_cases c5 : r = 0
  · rw [if_pos (k5.mpr c5), if_pos (k5.mpr c5), if_pos c5]
    exact ⟨rfl, id⟩
  rw [if_neg (fun t => c5 (k5.mp t)), if_neg (fun t => c5 (k5.mp t)), if_neg c5]
  by_cases c7 : u < 1
  · rw [if_pos (k7.mpr c7), if_pos (k7.mpr c7), if_pos (Or.inl c7)]
    exact ⟨rfl, id⟩
  rw [if_neg (fun t => c7 (k7.mp t)), if_neg (fun t => c7 (k7.mp t))]
  by_cases c7' : 3 < u
  · have q : ¬ lg_cmp (lN u) 3 ≤ 0 := fun t => absurd (k7'.mp t) (by omega)
    rw [if_neg q, if_neg q, if_pos (Or.inr c7')]
    exact ⟨rfl, id⟩
  rw [if_pos (k7'.mpr (by omega)), if_pos (k7'.mpr (by omega)), if_neg (show ¬ (u < 1 ∨ 3 < u) by omega)]
  by_cases c9 : a = 0
  · rw [if_pos (k9.mpr c9), if_pos (k9.mpr c9), if_pos c9]
    exact ⟨rfl, fun t => ⟨g7, t⟩⟩
  rw [if_neg (fun t => c9 (k9.mp t)), if_neg (fun t => c9 (k9.mp t)), if_neg c9]
  by_cases c11 : d = 0
  · rw [if_pos (k11.mpr c11), if_pos (k11.mpr c11), if_pos c11]
    exact ⟨rfl, fun t => ⟨g7, g8, t⟩⟩
  rw [if_neg (fun t => c11 (k11.mp t)), if_neg (fun t => c11 (k11.mp t)), if_neg c11]
  exact ⟨rfl, fun t => ⟨g7, g8, t⟩⟩
theorem vals_330 (hw : w < 4294967296) (hh : h < 4294967296) (hc : c < 4294967296) (hi : i < 4294967296) (hf : f < 4294967296) (hr : r < 4294967296) (hu : u < 4294967296) (ha : a < 4294967296) (hd : d < 4294967296)
    (p0 : 0 ≤ et (0 : Int32).toNatClampNeg) (p1 : 0 ≤ et (1 : Int32).toNatClampNeg) (p9 : 0 ≤ et (9 : Int32).toNatClampNeg) (p10 : 0 ≤ et (10 : Int32).toNatClampNeg)
    (e0 : M_Md_value md bf et 0 0 = lN w) (e1 : M_Md_value md bf et 1 0 = lN h) (e2 : M_Md_valueOr md bf et 2 0 1 = lN c) (e3 : M_Md_valueOr md bf et 3 0 0 = lN i) (e4 : M_Md_valueOr md bf et 4 0 1 = lN f) (e5 : M_Md_valueOr md bf et 5 0 (lN h) = lN r) (e6 : M_Md_valueOr md bf et 6 0 2 = lN u) (e7 : M_Md_valueOr md bf et 7 1 1 = lN a) (e8 : M_Md_valueOr md bf et 8 1 1 = lN d)
    (g0 : G_Md_value md bf et 0 0) (g1 : G_Md_value md bf et 1 0) (g2 : G_Md_valueOr md bf et 2 0) (g3 : G_Md_valueOr md bf et 3 0) (g4 : G_Md_valueOr md bf et 4 0) (g5 : G_Md_valueOr md bf et 5 0) (g6 : G_Md_valueOr md bf et 6 0) (g7 : G_Md_valueOr md bf et 7 1) (g8 : G_Md_valueOr md bf et 8 1) :
    M_Md_values md sz bf mn mf sp sl et P = K_Md_values_330 md sz bf mn mf sp sl et P (lN w) (lN h) (lN c) (lN i) (lN f) (lN r) (lN u) (nI (wtN w h c i f r u a d)) ∧
    (GK_Md_values_330 md sz bf mn mf sp sl et P (lN w) (lN h) (lN c) (lN i) (lN f) (lN r) (lN u) (nI (wtN w h c i f r u a d)) → G_Md_values md sz bf mn mf sp sl et P) := by
  have k0 : lg_cmp (lN w) 1 < 0 ↔ w < 1 := by rw [lg_cmp_lt]; exact pk_lLT (b := 1) (by omega) (by omega)
  have k0' : lg_cmp (lN w) 20000 ≤ 0 ↔ w ≤ 20000 := by rw [lg_cmp_le]; exact pk_lLE (b := 20000) (by omega) (by omega)
  have k1 : lg_cmp (lN h) 1 < 0 ↔ h < 1 := by rw [lg_cmp_lt]; exact pk_lLT (b := 1) (by omega) (by omega)
  have k1' : lg_cmp (lN h) 20000 ≤ 0 ↔ h ≤ 20000 := by rw [lg_cmp_le]; exact pk_lLE (b := 20000) (by omega) (by omega)
  have k2 : lg_cmp (lN c) 1 = 0 ↔ c = 1 := by rw [lg_cmp_eq]; exact pk_lEQ (b := 1) (by omega) (by omega)
  have k2' : lg_cmp (lN c) 4 = 0 ↔ c = 4 := by rw [lg_cmp_eq]; exact pk_lEQ (b := 4) (by omega) (by omega)
  have kr := k206 (md := md) (sz := sz) (bf := bf) (mn := mn) (mf := mf) (sp := sp) (sl := sl) (et := et) (P := P) (v3 := lN w) (v5 := lN h) (v7 := lN c) hi hf hr hu ha hd e7 e8 g7 g8
  have v11 : vp_in 1 11 := by rw [vp_in_iff]; decide
  have v10 : vp_in 0 11 := by rw [vp_in_iff]; decide
  have v19 : vp_in 9 11 := by rw [vp_in_iff]; decide
  have v1a : vp_in 10 11 := by rw [vp_in_iff]; decide
  -- the tests alone
  have core : (if (lg_cmp (lN w) 1) < 0 then (K_Md_values_330 md sz bf mn mf sp sl et P (lN w) (lN h) (lN c) (lN i) (lN f) (lN r) (lN u) 256) else (if (lg_cmp (lN w) 20000) ≤ 0 then (if (lg_cmp (lN h) 1) < 0 then (K_Md_values_330 md sz bf mn mf sp sl et P (lN w) (lN h) (lN c) (lN i) (lN f) (lN r) (lN u) 257) else (if (lg_cmp (lN h) 20000) ≤ 0 then (if (lg_cmp (lN c) 1) = 0 then (K_Md_values_206 md sz bf mn mf sp sl et P (lN w) (lN h) (lN c) (lN i) (lN f) (lN r) (lN u)) else (if (lg_cmp (lN c) 4) = 0 then (K_Md_values_206 md sz bf mn mf sp sl et P (lN w) (lN h) (lN c) (lN i) (lN f) (lN r) (lN u)) else (K_Md_values_330 md sz bf mn mf sp sl et P (lN w) (lN h) (lN c) (lN i) (lN f) (lN r) (lN u) 259))) else (K_Md_values_330 md sz bf mn mf sp sl et P (lN w) (lN h) (lN c) (lN i) (lN f) (lN r) (lN u) 257))) else (K_Md_values_330 md sz bf mn mf sp sl et P (lN w) (lN h) (lN c) (lN i) (lN f) (lN r) (lN u) 256))) = K_Md_values_330 md sz bf mn mf sp sl et P (lN w) (lN h) (lN c) (lN i) (lN f) (lN r) (lN u) (nI (wtN w h c i f r u a d)) ∧
      (GK_Md_values_330 md sz bf mn mf sp sl et P (lN w) (lN h) (lN c) (lN i) (lN f) (lN r) (lN u) (nI (wtN w h c i f r u a d)) → (if (lg_cmp (lN w) 1) < 0 then (GK_Md_values_330 md sz bf mn mf sp sl et P (lN w) (lN h) (lN c) (lN i) (lN f) (lN r) (lN u) 256) else ((if (lg_cmp (lN w) 20000) ≤ 0 then ((if (lg_cmp (lN h) 1) < 0 then (GK_Md_values_330 md sz bf mn mf sp sl et P (lN w) (lN h) (lN c) (lN i) (lN f) (lN r) (lN u) 257) else ((if (lg_cmp (lN h) 20000) ≤ 0 then ((if (lg_cmp (lN c) 1) = 0 then (GK_Md_values_206 md sz bf mn mf sp sl et P (lN w) (lN h) (lN c) (lN i) (lN f) (lN r) (lN u)) else ((if (lg_cmp (lN c) 4) = 0 then (GK_Md_values_206 md sz bf mn mf sp sl et P (lN w) (lN h) (lN c) (lN i) (lN f) (lN r) (lN u)) else (GK_Md_values_330 md sz bf mn mf sp sl et P (lN w) (lN h) (lN c) (lN i) (lN f) (lN r) (lN u) 259))))) else (GK_Md_values_330 md sz bf mn mf sp sl et P (lN w) (lN h) (lN c) (lN i) (lN f) (lN r) (lN u) 257))))) else (GK_Md_values_330 md sz bf mn mf sp sl et P (lN w) (lN h) (lN c) (lN i) (lN f) (lN r) (lN u) 256))))) := by
    unfold wtN
    by_cases c0 : w < 1
    · rw [if_pos (k0.mpr c0), if_pos (k0.mpr c0), if_pos (Or.inl c0)]
      exact ⟨rfl, id⟩
    rw [if_neg (fun t => c0 (k0.mp t)), if_neg (fun t => c0 (k0.mp t))]
    by_cases c0' : 20000 < w
    · have q : ¬ lg_cmp (lN w) 20000 ≤ 0 := fun t => absurd (k0'.mp t) (by omega)
      rw [if_neg q, if_neg q, if_pos (Or.inr c0')]
      exact ⟨rfl, id⟩
    rw [if_pos (k0'.mpr (by omega)), if_pos (k0'.mpr (by omega)), if_neg (show ¬ (w < 1 ∨ 20000 < w) by omega)]
    by_cases c1 : h < 1
    · rw [if_pos (k1.mpr c1), if_pos (k1.mpr c1), if_pos (Or.inl c1)]
      exact ⟨rfl, id⟩
    rw [if_neg (fun t => c1 (k1.mp t)), if_neg (fun t => c1 (k1.mp t))]
    by_cases c1' : 20000 < h
    · have q : ¬ lg_cmp (lN h) 20000 ≤ 0 := fun t => absurd (k1'.mp t) (by omega)
      rw [if_neg q, if_neg q, if_pos (Or.inr c1')]
      exact ⟨rfl, id⟩
    rw [if_pos (k1'.mpr (by omega)), if_pos (k1'.mpr (by omega)), if_neg (show ¬ (h < 1 ∨ 20000 < h) by omega)]
    by_cases c2 : c = 1
    · rw [if_pos (k2.mpr c2), if_pos (k2.mpr c2), if_neg (fun q => q.1 c2)]
      exact kr
    rw [if_neg (fun t => c2 (k2.mp t)), if_neg (fun t => c2 (k2.mp t))]
    by_cases c2' : c = 4
    · rw [if_pos (k2'.mpr c2'), if_pos (k2'.mpr c2'), if_neg (fun q => q.2 c2')]
      exact kr
    rw [if_neg (fun t => c2' (k2'.mp t)), if_neg (fun t => c2' (k2'.mp t)), if_pos ⟨c2, c2'⟩]
    exact ⟨rfl, id⟩
  refine ⟨?_, fun q => ?_⟩
  · unfold M_Md_values
    rw [if_pos p0, if_pos p1, if_pos p9, if_pos p10]
    (try dsimp only)
    rw [e0, e1, e2, e3, e4, e5, e6]
    exact core.1
  · unfold G_Md_values
    rw [if_pos p0, if_pos p1, if_pos p9, if_pos p10]
    refine ⟨v10, v11, v19, v1a, g0, fun y8 h8 => ?_⟩
    rw [h8, e0]
    refine ⟨g1, fun y9 h9 => ?_⟩
    rw [h9, e1]
    refine ⟨g2, fun y10 h10 => ?_⟩
    rw [h10, e2]
    refine ⟨g3, fun y11 h11 => ?_⟩
    rw [h11, e3]
    refine ⟨g4, fun y12 h12 => ?_⟩
    rw [h12, e4]
    refine ⟨g5, fun y13 h13 => ?_⟩
    rw [h13, e5]
    refine ⟨g6, fun y14 h14 => ?_⟩
    rw [h14, e6]
    exact core.2 q
theorem one_div {m n : Nat} (h1 : n ≤ m) (h2 : m < 2 * n) : m / n = 1 := Nat.div_eq_of_lt_le (by omega) (by omega)
theorem strips_eq {h r : Nat} (h1 : 1 ≤ h) (h2 : h ≤ 20000) (h3 : 1 ≤ r) : M_PF_stripsOf (lN h) (lN (if h < r then h else r)) = lN ((h + r - 1) / r) := by
  by_cases c : h < r
  · rw [if_pos c, strips_l h1 (by omega) (by omega), one_div (m := h + h - 1) (by omega) (by omega), one_div (m := h + r - 1) (by omega) (by omega)]
  · rw [if_neg c, strips_l h3 (by omega) (by omega)]
theorem strips_le {h r : Nat} (h1 : 1 ≤ h) (h3 : 1 ≤ r) : (h + r - 1) / r ≤ h := by
  refine Nat.div_le_of_le_mul ?_
  obtain ⟨r', rfl⟩ : ∃ r', r = r' + 1 := ⟨r - 1, by omega⟩
  have e : (r' + 1) * h = r' * h + h := Nat.succ_mul r' h
  have q : r' ≤ r' * h := Nat.le_mul_of_pos_right r' h1
  omega
end K
end PRE
section PRF
section K
variable {md : Nat → Int32} {sz : Int32} {bf : Nat → Int32} {mn : Nat → Int64} {mf sp sl et : Nat → Int32} {p w h c i f r u x a y d S F C9 C10 : Nat}
/-- the counts, in the reference -/
theorem k330_cnt (hp : p < 40) (h1 : 1 ≤ h ∧ h ≤ 20000) (hr : 1 ≤ r ∧ r < 4294967296) (hS : S = (h + r - 1) / r) (hF : mf p = nI F) (hF2 : F ≤ 8192) (hC9 : C9 < 4294967296) (hC10 : C10 < 4294967296)
    (c9 : M_Md_readFour md bf ((et (9 : Int32).toNatClampNeg) + 4) = lN C9) (c10 : M_Md_readFour md bf ((et (10 : Int32).toNatClampNeg) + 4) = lN C10) (g9 : G_Md_readFour md bf ((et (9 : Int32).toNatClampNeg) + 4)) (g10 : G_Md_readFour md bf ((et (10 : Int32).toNatClampNeg) + 4))
    (e70 : M_Md_valueOr md bf et 7 0 300 = lN x) (e71 : M_Md_valueOr md bf et 7 1 1 = lN a) (e80 : M_Md_valueOr md bf et 8 0 300 = lN y) (e81 : M_Md_valueOr md bf et 8 1 1 = lN d)
    (g70 : G_Md_valueOr md bf et 7 0) (g71 : G_Md_valueOr md bf et 7 1) (g80 : G_Md_valueOr md bf et 8 0) (g81 : G_Md_valueOr md bf et 8 1) :
    (¬ C9 = S → K_Md_values_330 md sz bf mn mf sp sl et (nI p) (lN w) (lN h) (lN c) (lN i) (lN f) (lN r) (lN u) 0 = (0, MF md 8 (nI p) 273 0, mn, mf, sp, sl) ∧ GK_Md_values_330 md sz bf mn mf sp sl et (nI p) (lN w) (lN h) (lN c) (lN i) (lN f) (lN r) (lN u) 0) ∧
    (C9 = S → ¬ C10 = S → K_Md_values_330 md sz bf mn mf sp sl et (nI p) (lN w) (lN h) (lN c) (lN i) (lN f) (lN r) (lN u) 0 = (0, MF md 8 (nI p) 279 0, mn, mf, sp, sl) ∧ GK_Md_values_330 md sz bf mn mf sp sl et (nI p) (lN w) (lN h) (lN c) (lN i) (lN f) (lN r) (lN u) 0) ∧
    (C9 = S → C10 = S → ¬ F + S ≤ 8192 → K_Md_values_330 md sz bf mn mf sp sl et (nI p) (lN w) (lN h) (lN c) (lN i) (lN f) (lN r) (lN u) 0 = (0, MF md 8 (nI p) 278 0, mn, mf, sp, sl) ∧ GK_Md_values_330 md sz bf mn mf sp sl et (nI p) (lN w) (lN h) (lN c) (lN i) (lN f) (lN r) (lN u) 0) ∧
    (C9 = S → C10 = S → F + S ≤ 8192 → ∀ X, X = M_Md_stripsOf md sz bf mf sp sl et (nI p) (nI S) → K_Md_values_330 md sz bf mn mf sp sl et (nI p) (lN w) (lN h) (lN c) (lN i) (lN f) (lN r) (lN u) 0 = (X.1, X.2.1, NM mn p (lN w) (lN h) (lN c) (lN i) (lN f) (lN (if h < r then h else r)) (lN S) (lN u) (lN x) (lN a) (lN y) (lN d), X.2.2.1, X.2.2.2.1, X.2.2.2.2) ∧ (G_Md_stripsOf md sz bf mf sp sl et (nI p) (nI S) → GK_Md_values_330 md sz bf mn mf sp sl et (nI p) (lN w) (lN h) (lN c) (lN i) (lN f) (lN r) (lN u) 0)) := by
  have hSle : S ≤ 20000 := by
    have := strips_le h1.1 hr.1
    omega
  have l0 : (0 : Int32) ≤ 0 := Int32.le_refl _
  have ey : ((lN h + lN r) - 1) / lN r = lN S := by
    have e1 : lN (h + r) - 1 = lN (h + r - 1) := lN_sub (b := 1) (by omega)
    rw [lN_add, e1, pk_lDiv (by omega) (by omega) (by omega), hS]
  have nz : ¬ lN r = 0 := fun q => by
    have q2 : lN r = lN 0 := q
    rw [pk_lEQ (by omega) (by omega)] at q2
    omega
  have v9 : vp_in 9 11 := by rw [vp_in_iff]; decide
  have v10 : vp_in 10 11 := by rw [vp_in_iff]; decide
  have vp : vp_in (nI p) 41 := vp_in_nI (by omega) (by omega)
  have k9 : lg_cmp (lN C9) (lN S) = 0 ↔ C9 = S := by rw [lg_cmp_eq]; exact pk_lEQ (by omega) (by omega)
  have k10 : lg_cmp (lN C10) (lN S) = 0 ↔ C10 = S := by rw [lg_cmp_eq]; exact pk_lEQ (by omega) (by omega)
  have cp : (nI p).toNatClampNeg = p := nI_clamp (by omega)
  have kF : lg_cmp ((mf (nI p).toNatClampNeg).toInt64 + lN S) 8192 ≤ 0 ↔ F + S ≤ 8192 := by
    rw [cp, hF, nI_l (by omega), lN_add, lg_cmp_le]
    exact pk_lLE (b := 8192) (by omega) (by omega)
  have k5 : 0 ≤ lg_cmp (lN r) (lN h) ↔ h ≤ r := by
    rw [lg_cmp_ge]
    exact pk_lLE (by omega) (by omega)
  have e13 : (13 : Int32) * nI p = nI (13 * p) := pk_mul 13 p
  have ad : ∀ k : Nat, k < 13 → (nI (13 * p) + nI k).toNatClampNeg = 13 * p + k ∧ vp_in (nI (13 * p) + nI k) 520 := by
    intro k hk
    rw [nI_add]
    exact ⟨nI_clamp (by omega), vp_in_nI (by omega) (by omega)⟩
  have d0 : (nI (13 * p)).toNatClampNeg = 13 * p + 0 := nI_clamp (by omega)
  have j0 : vp_in (nI (13 * p)) 520 := vp_in_nI (by omega) (by omega)
  obtain ⟨d1, j1⟩ := ad 1 (by omega)
  obtain ⟨d2, j2⟩ := ad 2 (by omega)
  obtain ⟨d3, j3⟩ := ad 3 (by omega)
  obtain ⟨d4, j4⟩ := ad 4 (by omega)
  obtain ⟨d5, j5⟩ := ad 5 (by omega)
  obtain ⟨d6, j6⟩ := ad 6 (by omega)
  obtain ⟨d7, j7⟩ := ad 7 (by omega)
  obtain ⟨d8, j8⟩ := ad 8 (by omega)
  obtain ⟨d9, j9⟩ := ad 9 (by omega)
  obtain ⟨d10, j10⟩ := ad 10 (by omega)
  obtain ⟨d11, j11⟩ := ad 11 (by omega)
  refine ⟨fun n9 => ?_, fun y9 n10 => ?_, fun y9 y10 nF => ?_, fun y9 y10 yF X hX => ?_⟩
  · have q9 : ¬ lg_cmp (lN C9) (lN S) = 0 := fun t => n9 (k9.mp t)
    refine ⟨?_, ?_⟩
    · unfold K_Md_values_330
      rw [if_pos l0]
      (try dsimp only)
      rw [ey, c9, if_neg q9] <;> rfl
    · unfold GK_Md_values_330
      rw [if_pos l0]
      refine ⟨nz, fun y2 h2 => ?_⟩
      rw [h2, ey, c9, if_neg q9]
      exact ⟨v9, g9, trivial⟩
  · have q9 := k9.mpr y9
    have q10 : ¬ lg_cmp (lN C10) (lN S) = 0 := fun t => n10 (k10.mp t)
    refine ⟨?_, ?_⟩
    · unfold K_Md_values_330
      rw [if_pos l0]
      (try dsimp only)
      rw [ey, c9, if_pos q9, c10, if_neg q10] <;> rfl
    · unfold GK_Md_values_330
      rw [if_pos l0]
      refine ⟨nz, fun y2 h2 => ?_⟩
      rw [h2, ey, c9, if_pos q9, c10, if_neg q10]
      exact ⟨v9, g9, v10, g10, trivial⟩
  · have q9 := k9.mpr y9
    have q10 := k10.mpr y10
    have qF : ¬ lg_cmp ((mf (nI p).toNatClampNeg).toInt64 + lN S) 8192 ≤ 0 := fun t => nF (kF.mp t)
    refine ⟨?_, ?_⟩
    · unfold K_Md_values_330
      rw [if_pos l0]
      (try dsimp only)
      rw [ey, c9, if_pos q9, c10, if_pos q10, if_neg qF] <;> rfl
    · unfold GK_Md_values_330
      rw [if_pos l0]
      refine ⟨nz, fun y2 h2 => ?_⟩
      rw [h2, ey, c9, if_pos q9, c10, if_pos q10, if_neg qF]
      exact ⟨v9, g9, v10, g10, vp, trivial⟩
  · have q9 := k9.mpr y9
    have q10 := k10.mpr y10
    have qF := kF.mpr yF
    have s530 : ∀ M : Nat → Int64, K_Md_values_530 md sz bf mf sp sl et (nI p) (lN u) (lN S) (nI (13 * p)) M = (X.1, X.2.1, vp_updL (vp_updL (vp_updL (vp_updL (vp_updL (vp_updL M (13 * p + 6) (lN S)) (13 * p + 7) (lN u)) (13 * p + 8) (lN x)) (13 * p + 9) (lN a)) (13 * p + 10) (lN y)) (13 * p + 11) (lN d), X.2.2.1, X.2.2.2.1, X.2.2.2.2) := by
      intro M
      have d6' : (nI (13 * p) + 6).toNatClampNeg = 13 * p + 6 := d6
      have d7' : (nI (13 * p) + 7).toNatClampNeg = 13 * p + 7 := d7
      have d8' : (nI (13 * p) + 8).toNatClampNeg = 13 * p + 8 := d8
      have d9' : (nI (13 * p) + 9).toNatClampNeg = 13 * p + 9 := d9
      have d10' : (nI (13 * p) + 10).toNatClampNeg = 13 * p + 10 := d10
      have d11' : (nI (13 * p) + 11).toNatClampNeg = 13 * p + 11 := d11
      unfold K_Md_values_530
      (try dsimp only)
      rw [lN_i, ← hX, d6', d7', d8', d9', d10', d11', e70, e71, e80, e81]
    have g530 : ∀ M : Nat → Int64, G_Md_stripsOf md sz bf mf sp sl et (nI p) (nI S) → GK_Md_values_530 md sz bf mf sp sl et (nI p) (lN u) (lN S) (nI (13 * p)) M := by
      intro M q
      unfold GK_Md_values_530
      refine ⟨j6, j7, g70, j8, g71, j9, g80, j10, g81, j11, ?_⟩
      rw [lN_i]
      exact q
    have d1' : (nI (13 * p) + 1).toNatClampNeg = 13 * p + 1 := d1
    have d2' : (nI (13 * p) + 2).toNatClampNeg = 13 * p + 2 := d2
    have d3' : (nI (13 * p) + 3).toNatClampNeg = 13 * p + 3 := d3
    have d4' : (nI (13 * p) + 4).toNatClampNeg = 13 * p + 4 := d4
    have d5' : (nI (13 * p) + 5).toNatClampNeg = 13 * p + 5 := d5
    refine ⟨?_, fun q => ?_⟩
    · unfold K_Md_values_330 NM
      rw [if_pos l0]
      (try dsimp only)
      rw [ey, c9, if_pos q9, c10, if_pos q10, if_pos qF, e13]
      by_cases c5 : h ≤ r
      · rw [if_pos (k5.mpr c5), s530, d0, d1', d2', d3', d4', d5']
        by_cases c6 : h < r
        · rw [if_pos c6]
        · rw [if_neg c6, show r = h by omega]
      · rw [if_neg (fun t => c5 (k5.mp t)), s530, d0, d1', d2', d3', d4', d5', if_neg (show ¬ h < r by omega)]
    · unfold GK_Md_values_330
      rw [if_pos l0]
      refine ⟨nz, fun y2 h2 => ?_⟩
      rw [h2, ey, c9, if_pos q9, c10, if_pos q10, if_pos qF]
      refine ⟨v9, g9, v10, g10, vp, fun y3 h3 => ?_⟩
      rw [h3, e13]
      refine ⟨j0, j1, j2, j3, j4, ?_⟩
      by_cases c5 : h ≤ r
      · rw [if_pos (k5.mpr c5)]
        exact ⟨j5, g530 _ q⟩
      · rw [if_neg (fun t => c5 (k5.mp t))]
        exact ⟨j5, g530 _ q⟩
end K
/-- takePage() behind the entries -/
def TailS (N : Int32 × (Nat → Int32) × (Nat → Int64)) (S : Int32 × (Nat → Int32) × RowS × (Nat → Int32)) : Int32 × (Nat → Int32) × (Nat → Int64) × RowS × (Nat → Int32) := if S.1 = 0 then (0, S.2.1, N.2.2, S.2.2.1, S.2.2.2) else (1, S.2.1, N.2.2, S.2.2.1, S.2.2.2)
def TailN (ro : RowS) (ty ct pl : Nat → Int32) (rs : RowS) (fs : Nat → Int32) (N : Int32 × (Nat → Int32) × (Nat → Int64)) : Int32 × (Nat → Int32) × (Nat → Int64) × RowS × (Nat → Int32) := if N.1 = 0 then (0, N.2.1, N.2.2, rs, fs) else TailS N (M_Rd_takeStrips N.2.1 ro ty ct pl N.2.2 rs fs)
def TailA (ro : RowS) (ty ct pl : Nat → Int32) (nu : Nat → Int64) (rs : RowS) (fs : Nat → Int32) (q : Int64) (A : Int32 × (Nat → Int32)) : Int32 × (Nat → Int32) × (Nat → Int64) × RowS × (Nat → Int32) := if A.1 = 0 then (0, A.2, nu, rs, fs) else TailN ro ty ct pl rs fs (M_Rd_takeNumbers A.2 ro ty ct pl nu q)
def Tail (rd : Nat → Int32) (ro : RowS) (ty ct pl : Nat → Int32) (nu : Nat → Int64) (rs : RowS) (fs : Nat → Int32) (q : Int64) : Int32 × (Nat → Int32) × (Nat → Int64) × RowS × (Nat → Int32) := TailA ro ty ct pl nu rs fs q (M_Rd_hasNeededTags rd ct)
section T
variable {rd rd' : Nat → Int32} {ro : RowS} {ty ct pl ty' ct' pl' : Nat → Int32} {nu nu' : Nat → Int64} {rs rs' : RowS} {fs fs' : Nat → Int32} {q : Int64}
theorem tail_1 (h1 : M_Rd_hasNeededTags rd ct = (0, rd')) : Tail rd ro ty ct pl nu rs fs q = (0, rd', nu, rs, fs) := by
  unfold Tail TailA
  rw [h1, if_pos p00]
theorem tail_2 (h1 : M_Rd_hasNeededTags rd ct = (1, rd)) (h2 : M_Rd_takeNumbers rd ro ty ct pl nu q = (0, rd', nu')) : Tail rd ro ty ct pl nu rs fs q = (0, rd', nu', rs, fs) := by
  unfold Tail TailA
  rw [h1, if_neg n10p]
  (try dsimp only)
  rw [h2]
  unfold TailN
  rw [if_pos p00]
theorem tail_3 (h1 : M_Rd_hasNeededTags rd ct = (1, rd)) (h2 : M_Rd_takeNumbers rd ro ty ct pl nu q = (1, rd, nu')) (h3 : M_Rd_takeStrips rd ro ty ct pl nu' rs fs = (0, rd', rs', fs')) : Tail rd ro ty ct pl nu rs fs q = (0, rd', nu', rs', fs') := by
  unfold Tail TailA
  rw [h1, if_neg n10p]
  (try dsimp only)
  rw [h2]
  unfold TailN
  rw [if_neg n10p]
  (try dsimp only)
  rw [h3]
  unfold TailS
  rw [if_pos p00]
theorem tail_4 (h1 : M_Rd_hasNeededTags rd ct = (1, rd)) (h2 : M_Rd_takeNumbers rd ro ty ct pl nu q = (1, rd, nu')) (h3 : M_Rd_takeStrips rd ro ty ct pl nu' rs fs = (1, rd', rs', fs')) : Tail rd ro ty ct pl nu rs fs q = (1, rd', nu', rs', fs') := by
  unfold Tail TailA
  rw [h1, if_neg n10p]
  (try dsimp only)
  rw [h2]
  unfold TailN
  rw [if_neg n10p]
  (try dsimp only)
  rw [h3]
  unfold TailS
  rw [if_neg n10p]
theorem tp_40 (h : 40 ≤ rd 2) : M_Rd_takePage rd ro ty ct pl nu rs fs q = (0, RF rd 2 0 0, ty, ct, pl, nu, rs, fs) := by
  unfold M_Rd_takePage
  rw [if_pos h] <;> rfl
theorem tp_dir (h : ¬ 40 ≤ rd 2) (hd : M_Rd_isDirectory rd ro q = 0) : M_Rd_takePage rd ro ty ct pl nu rs fs q = (0, RF rd 2 0 0, ty, ct, pl, nu, rs, fs) := by
  unfold M_Rd_takePage
  rw [if_neg h, if_pos hd] <;> rfl
theorem tp_ent (h : ¬ 40 ≤ rd 2) (hd : M_Rd_isDirectory rd ro q = 1) (he : M_Rd_takeEntries rd ro ty ct pl q.toInt32 = (0, rd', ty', ct', pl')) : M_Rd_takePage rd ro ty ct pl nu rs fs q = (0, rd', ty', ct', pl', nu, rs, fs) := by
  have hd2 : ¬ M_Rd_isDirectory rd ro q = 0 := by rw [hd]; exact n10
  unfold M_Rd_takePage
  rw [if_neg h, if_neg hd2]
  (try dsimp only)
  rw [he, if_pos p00]
theorem tp_gen (h : ¬ 40 ≤ rd 2) (hd : M_Rd_isDirectory rd ro q = 1) {x2 : Int32 × (Nat → Int32) × (Nat → Int32) × (Nat → Int32) × (Nat → Int32)} (he : M_Rd_takeEntries rd ro ty ct pl q.toInt32 = x2) : M_Rd_takePage rd ro ty ct pl nu rs fs q = if x2.1 = 0 then (0, x2.2.1, x2.2.2.1, x2.2.2.2.1, x2.2.2.2.2, nu, rs, fs) else ((Tail x2.2.1 ro x2.2.2.1 x2.2.2.2.1 x2.2.2.2.2 nu rs fs q).1, (Tail x2.2.1 ro x2.2.2.1 x2.2.2.2.1 x2.2.2.2.2 nu rs fs q).2.1, x2.2.2.1, x2.2.2.2.1, x2.2.2.2.2, (Tail x2.2.1 ro x2.2.2.1 x2.2.2.2.1 x2.2.2.2.2 nu rs fs q).2.2.1, (Tail x2.2.1 ro x2.2.2.1 x2.2.2.2.1 x2.2.2.2.2 nu rs fs q).2.2.2.1, (Tail x2.2.1 ro x2.2.2.1 x2.2.2.2.1 x2.2.2.2.2 nu rs fs q).2.2.2.2) := by
  have hd2 : ¬ M_Rd_isDirectory rd ro q = 0 := by rw [hd]; exact n10
  unfold M_Rd_takePage
  rw [if_neg h, if_neg hd2]
  (try dsimp only)
  rw [he]
  by_cases a2 : x2.1 = 0
  · rw [if_pos a2, if_pos a2]
  rw [if_neg a2, if_neg a2]
  unfold Tail
  generalize M_Rd_hasNeededTags x2.2.1 x2.2.2.2.1 = A
  unfold TailA
  by_cases a3 : A.1 = 0
  · rw [if_pos a3, if_pos a3]
  rw [if_neg a3, if_neg a3]
  generalize M_Rd_takeNumbers A.2 ro x2.2.2.1 x2.2.2.2.1 x2.2.2.2.2 nu q = N
  unfold TailN
  by_cases a4 : N.1 = 0
  · rw [if_pos a4, if_pos a4]
  rw [if_neg a4, if_neg a4]
  generalize M_Rd_takeStrips N.2.1 ro x2.2.2.1 x2.2.2.2.1 x2.2.2.2.2 N.2.2 rs fs = S
  unfold TailS
  by_cases a5 : S.1 = 0
  · rw [if_pos a5, if_pos a5]
  rw [if_neg a5, if_neg a5]
theorem tp_val (h : ¬ 40 ≤ rd 2) (hd : M_Rd_isDirectory rd ro q = 1) (he : M_Rd_takeEntries rd ro ty ct pl q.toInt32 = (1, rd, ty', ct', pl')) {T : Int32 × (Nat → Int32) × (Nat → Int64) × RowS × (Nat → Int32)} (hT : Tail rd ro ty' ct' pl' nu rs fs q = T) : M_Rd_takePage rd ro ty ct pl nu rs fs q = (T.1, T.2.1, ty', ct', pl', T.2.2.1, T.2.2.2.1, T.2.2.2.2) := by
  rw [tp_gen h hd he, if_neg n10p]
  show ((Tail rd ro ty' ct' pl' nu rs fs q).1, (Tail rd ro ty' ct' pl' nu rs fs q).2.1, ty', ct', pl', (Tail rd ro ty' ct' pl' nu rs fs q).2.2.1, (Tail rd ro ty' ct' pl' nu rs fs q).2.2.2.1, (Tail rd ro ty' ct' pl' nu rs fs q).2.2.2.2) = _
  rw [hT]
/-- the counts, in the class -/
theorem cs_bad {S t : Int32} (hS : (M_Pn_get nu (rd 2) 6).toInt32 = S) (hw : M_Rd_wrongCount ct rs S = t) (ht : ¬ t = 0) : M_Rd_takeStrips rd ro ty ct pl nu rs fs = (0, RF rd 8 t 0, rs, fs) := by
  unfold M_Rd_takeStrips
  rw [hS, hw, if_neg ht] <;> rfl
theorem cs_ok {p S : Nat} (hS : (M_Pn_get nu (rd 2) 6).toInt32 = nI S) (hS2 : S ≤ 20000) (hp : rd 2 = nI p) (hp40 : p < 40) (hw : M_Rd_wrongCount ct rs (nI S) = 0) : M_Rd_takeStrips rd ro ty ct pl nu rs fs = L_Rd_takeStrips rd ro ty ct pl nu (((S : Int) - 0).toNat + 1) (nI 0) rs (upd fs p rs.2.2) := by
  have e0 : (0 : Int32).toInt = 0 := by decide
  unfold M_Rd_takeStrips
  rw [hS, hw, if_pos rfl, hp, if_neg (nI_pos (by omega)), if_neg (nI_ge (by omega) (by omega)), nI_clamp (by omega), nI_toInt (by omega), e0] <;> rfl
end T
end PRF
section PRG
theorem g4w (md bf : Nat → Int32) {m : Nat} (hm : m + 4 ≤ 65536) : G_Md_readFour md bf (nI m) := g4 md bf hm
theorem tc0 : (0 : Int32).toNatClampNeg = 0 := by decide
theorem tc1 : (1 : Int32).toNatClampNeg = 1 := by decide
theorem tc9 : (9 : Int32).toNatClampNeg = 9 := by decide
theorem tc10 : (10 : Int32).toNatClampNeg = 10 := by decide
theorem neg1 : ¬ (0 : Int32) ≤ -1 := by decide
theorem hn_bad {rd ct : Nat → Int32} {t : Int32} (hm : M_En_firstMissing ct = t) (ht : ¬ t = 0) : M_Rd_hasNeededTags rd ct = (0, RF rd 6 t 0) := by
  unfold M_Rd_hasNeededTags
  rw [hm, if_neg ht, refuse_val, if_pos p00]
theorem hn_ok {rd ct : Nat → Int32} (hm : M_En_firstMissing ct = 0) : M_Rd_hasNeededTags rd ct = (1, rd) := by
  unfold M_Rd_hasNeededTags
  rw [hm, if_pos rfl]
section V
variable {md : Nat → Int32} {sz : Int32} {bf : Nat → Int32} {mn : Nat → Int64} {mf sp sl et : Nat → Int32} {P : Int32}
theorem mv_0 (h : ¬ 0 ≤ et (0 : Int32).toNatClampNeg) : M_Md_values md sz bf mn mf sp sl et P = (0, MF md 6 P 256 0, mn, mf, sp, sl) ∧ G_Md_values md sz bf mn mf sp sl et P := by
  have v10 : vp_in 0 11 := by rw [vp_in_iff]; decide
  unfold M_Md_values G_Md_values
  rw [if_neg h, if_neg h]
  exact ⟨rfl, v10, trivial⟩
theorem mv_1 (h0 : 0 ≤ et (0 : Int32).toNatClampNeg) (h : ¬ 0 ≤ et (1 : Int32).toNatClampNeg) : M_Md_values md sz bf mn mf sp sl et P = (0, MF md 6 P 257 0, mn, mf, sp, sl) ∧ G_Md_values md sz bf mn mf sp sl et P := by
  have v10 : vp_in 0 11 := by rw [vp_in_iff]; decide
  have v11 : vp_in 1 11 := by rw [vp_in_iff]; decide
  unfold M_Md_values G_Md_values
  rw [if_pos h0, if_pos h0, if_neg h, if_neg h]
  exact ⟨rfl, v10, v11, trivial⟩
theorem mv_9 (h0 : 0 ≤ et (0 : Int32).toNatClampNeg) (h1 : 0 ≤ et (1 : Int32).toNatClampNeg) (h : ¬ 0 ≤ et (9 : Int32).toNatClampNeg) : M_Md_values md sz bf mn mf sp sl et P = (0, MF md 6 P 273 0, mn, mf, sp, sl) ∧ G_Md_values md sz bf mn mf sp sl et P := by
  have v10 : vp_in 0 11 := by rw [vp_in_iff]; decide
  have v11 : vp_in 1 11 := by rw [vp_in_iff]; decide
  have v19 : vp_in 9 11 := by rw [vp_in_iff]; decide
  unfold M_Md_values G_Md_values
  rw [if_pos h0, if_pos h0, if_pos h1, if_pos h1, if_neg h, if_neg h]
  exact ⟨rfl, v10, v11, v19, trivial⟩
theorem mv_10 (h0 : 0 ≤ et (0 : Int32).toNatClampNeg) (h1 : 0 ≤ et (1 : Int32).toNatClampNeg) (h9 : 0 ≤ et (9 : Int32).toNatClampNeg) (h : ¬ 0 ≤ et (10 : Int32).toNatClampNeg) : M_Md_values md sz bf mn mf sp sl et P = (0, MF md 6 P 279 0, mn, mf, sp, sl) ∧ G_Md_values md sz bf mn mf sp sl et P := by
  have v10 : vp_in 0 11 := by rw [vp_in_iff]; decide
  have v11 : vp_in 1 11 := by rw [vp_in_iff]; decide
  have v19 : vp_in 9 11 := by rw [vp_in_iff]; decide
  have v1a : vp_in 10 11 := by rw [vp_in_iff]; decide
  unfold M_Md_values G_Md_values
  rw [if_pos h0, if_pos h0, if_pos h1, if_pos h1, if_pos h9, if_pos h9, if_neg h, if_neg h]
  exact ⟨rfl, v10, v11, v19, v1a, trivial⟩
end V
theorem wc_val {ct : Nat → Int32} {rs : RowS} {S F C9 C10 : Nat} (h9 : M_En_countOf ct 273 = nI C9) (h10 : M_En_countOf ct 279 = nI C10) (hF : rs.2.2 = nI F) (hC9 : C9 < 2 ^ 31) (hC10 : C10 < 2 ^ 31) (hS : S ≤ 20000) (hF2 : F ≤ 8192) : M_Rd_wrongCount ct rs (nI S) = if C9 = S then (if C10 = S then (if F + S ≤ 8192 then 0 else 278) else 279) else 273 := by
  have k9 : nI C9 = nI S ↔ C9 = S := nI_eq hC9 (by omega)
  have k10 : nI C10 = nI S ↔ C10 = S := nI_eq hC10 (by omega)
  have kF : nI F + nI S ≤ 8192 ↔ F + S ≤ 8192 := nI_sum (c := 8192) (by omega) (by omega) (by omega)
  unfold M_Rd_wrongCount
  rw [h9, h10, hF]
  by_cases c9 : C9 = S
  · rw [if_pos (k9.mpr c9), if_pos c9]
    by_cases c10 : C10 = S
    · rw [if_pos (k10.mpr c10), if_pos c10]
      by_cases cF : F + S ≤ 8192
      · rw [if_pos (kF.mpr cF), if_pos cF]
      · rw [if_neg (fun t => cF (kF.mp t)), if_neg cF]
    · rw [if_neg (fun t => c10 (k10.mp t)), if_neg c10]
  · rw [if_neg (fun t => c9 (k9.mp t)), if_neg c9]
theorem fm_val {ct : Nat → Int32} {a b c d : Int32} (h0 : M_En_countOf ct 256 = a) (h1 : M_En_countOf ct 257 = b) (h9 : M_En_countOf ct 273 = c) (h10 : M_En_countOf ct 279 = d) : M_En_firstMissing ct = if a = 0 then 256 else if b = 0 then 257 else if c = 0 then 273 else if d = 0 then 279 else 0 := by
  unfold M_En_firstMissing
  rw [h0, h1, h9, h10]
set_option maxHeartbeats 2000000 in
theorem tail_all {rd md : Nat → Int32} {ro : RowS} {sz : Int32} {bf : Nat → Int32} {z p F : Nat} {ty ct pl et : Nat → Int32} {nu : Nat → Int64} {rs : RowS} {fs : Nat → Int32} {mn : Nat → Int64} {mf sp sl : Nat → Int32} (h : FR ro sz bf z) (ho : rd 1 = md 14) (hp : rd 2 = nI p) (hp40 : p < 40) (hE : Ents (md 14) bf z ty ct pl et) (hSI : SI F rs sp sl) (hmf : mf p = nI F) (q : Int64) :
    ((∃ nu' rs' fs' mn' mf' sp' sl' F' c, Tail rd ro ty ct pl nu rs fs q = (1, rd, nu', rs', fs') ∧ M_Md_values md sz bf mn mf sp sl et (nI p) = (1, md, mn', mf', sp', sl') ∧ SI F' rs' sp' sl' ∧ mf' = upd mf (p + 1) (nI F') ∧ fs' = upd fs p (nI F) ∧ F + c = F' ∧ mn' (13 * p + 6) = lN c ∧ (∀ k, k < 13 * p → nu' k = nu k ∧ mn' k = mn k) ∧ (∀ w, w < 12 → nu' (13 * p + w) = mn' (13 * p + w)) ∧ nu' (13 * p + 12) = q) ∨
     (∃ k t s nu' rs' fs' mn' mf' sp' sl', FK k ∧ Tail rd ro ty ct pl nu rs fs q = (0, RF rd k t s, nu', rs', fs') ∧ M_Md_values md sz bf mn mf sp sl et (nI p) = (0, MF md k (nI p) t s, mn', mf', sp', sl') ∧ StOK 8192 rs' ∧ mf' = mf)) ∧ G_Md_values md sz bf mn mf sp sl et (nI p) := by
  have hz := h.2.1
  have f0 : M_En_countOf ct 256 = ct (tg 0 - 256) := cof (j := 0) (by omega)
  have f1 : M_En_countOf ct 257 = ct (tg 1 - 256) := cof (j := 1) (by omega)
  have f9 : M_En_countOf ct 273 = ct (tg 9 - 256) := cof (j := 9) (by omega)
  have f10 : M_En_countOf ct 279 = ct (tg 10 - 256) := cof (j := 10) (by omega)
  have fm := fm_val f0 f1 f9 f10
  have cp : ∀ {j e : Nat}, cnt j (r4 (md 14) bf (e + 4)) = true → 1 ≤ r4 (md 14) bf (e + 4) ∧ r4 (md 14) bf (e + 4) ≤ 4096 := by
    intro j e t
    simp [cnt] at t
    omega
  rcases hE 0 (by omega) with ⟨a1, a2⟩ | ⟨e0, a1, a2, a3, a4, a5, a6, a7, a8⟩
  · rw [a2, if_pos rfl] at fm
    obtain ⟨m1, m2⟩ := mv_0 (md := md) (sz := sz) (bf := bf) (mn := mn) (mf := mf) (sp := sp) (sl := sl) (P := nI p) (show ¬ 0 ≤ et (0 : Int32).toNatClampNeg by rw [tc0, a1]; exact neg1)
    exact ⟨Or.inr ⟨6, 256, 0, nu, rs, fs, mn, mf, sp, sl, fk6, tail_1 (hn_bad fm (by decide)), m1, hSI.1, rfl⟩, m2⟩
  have z0 : ¬ ct (tg 0 - 256) = 0 := by rw [a6]; have := cp a4; exact nI_ne0 (by omega) (by omega)
  have p0 : 0 ≤ et (0 : Int32).toNatClampNeg := by rw [tc0, a1]; exact nI_pos' (by omega)
  rw [if_neg z0] at fm
  rcases hE 1 (by omega) with ⟨b1, b2⟩ | ⟨e1, b1, b2, b3, b4, b5, b6, b7, b8⟩
  · rw [b2, if_pos rfl] at fm
    obtain ⟨m1, m2⟩ := mv_1 (md := md) (sz := sz) (bf := bf) (mn := mn) (mf := mf) (sp := sp) (sl := sl) (P := nI p) p0 (show ¬ 0 ≤ et (1 : Int32).toNatClampNeg by rw [tc1, b1]; exact neg1)
    exact ⟨Or.inr ⟨6, 257, 0, nu, rs, fs, mn, mf, sp, sl, fk6, tail_1 (hn_bad fm (by decide)), m1, hSI.1, rfl⟩, m2⟩
  have z1 : ¬ ct (tg 1 - 256) = 0 := by rw [b6]; have := cp b4; exact nI_ne0 (by omega) (by omega)
  have p1 : 0 ≤ et (1 : Int32).toNatClampNeg := by rw [tc1, b1]; exact nI_pos' (by omega)
  rw [if_neg z1] at fm
  rcases hE 9 (by omega) with ⟨c1, c2⟩ | ⟨e9, c1, c2, c3, c4, c5, c6, c7, c8⟩
  · rw [c2, if_pos rfl] at fm
    obtain ⟨m1, m2⟩ := mv_9 (md := md) (sz := sz) (bf := bf) (mn := mn) (mf := mf) (sp := sp) (sl := sl) (P := nI p) p0 p1 (show ¬ 0 ≤ et (9 : Int32).toNatClampNeg by rw [tc9, c1]; exact neg1)
    exact ⟨Or.inr ⟨6, 273, 0, nu, rs, fs, mn, mf, sp, sl, fk6, tail_1 (hn_bad fm (by decide)), m1, hSI.1, rfl⟩, m2⟩
  have z9 : ¬ ct (tg 9 - 256) = 0 := by rw [c6]; have := cp c4; exact nI_ne0 (by omega) (by omega)
  have p9 : 0 ≤ et (9 : Int32).toNatClampNeg := by rw [tc9, c1]; exact nI_pos' (by omega)
  rw [if_neg z9] at fm
  rcases hE 10 (by omega) with ⟨d1, d2⟩ | ⟨e10, d1, d2, d3, d4, d5, d6, d7, d8⟩
  · rw [d2, if_pos rfl] at fm
    obtain ⟨m1, m2⟩ := mv_10 (md := md) (sz := sz) (bf := bf) (mn := mn) (mf := mf) (sp := sp) (sl := sl) (P := nI p) p0 p1 p9 (show ¬ 0 ≤ et (10 : Int32).toNatClampNeg by rw [tc10, d1]; exact neg1)
    exact ⟨Or.inr ⟨6, 279, 0, nu, rs, fs, mn, mf, sp, sl, fk6, tail_1 (hn_bad fm (by decide)), m1, hSI.1, rfl⟩, m2⟩
  have z10 : ¬ ct (tg 10 - 256) = 0 := by rw [d6]; have := cp d4; exact nI_ne0 (by omega) (by omega)
  have p10 : 0 ≤ et (10 : Int32).toNatClampNeg := by rw [tc10, d1]; exact nI_pos' (by omega)
  rw [if_neg z10] at fm
  have hn := hn_ok (rd := rd) fm
  -- the numbers
  have na := cp a4
  have nb := cp b4
  obtain ⟨n0, v0, g0⟩ := num_eq (md := md) (i := 0) h (show 0 < 11 by omega) (Or.inl (by omega)) a1 a2 a3 a4 a5 a6 a7 a8
  obtain ⟨n1, v1, g1⟩ := num_eq (md := md) (i := 0) h (show 1 < 11 by omega) (Or.inl (by omega)) b1 b2 b3 b4 b5 b6 b7 b8
  obtain ⟨w, hw⟩ : ∃ w, w = vl (md 14) bf e0 0 := ⟨_, rfl⟩
  obtain ⟨hh, hhh⟩ : ∃ w, w = vl (md 14) bf e1 0 := ⟨_, rfl⟩
  have lw : w < 4294967296 := by rw [hw]; exact vl_lt _ _ _ _
  have lh : hh < 4294967296 := by rw [hhh]; exact vl_lt _ _ _ _
  rw [← hw] at n0 v0
  rw [← hhh] at n1 v1
  obtain ⟨c, lc, n2, v2, g2⟩ := or_eq (md := md) (j := 2) (i := 0) (dv := 1) h (by omega) (Or.inl rfl) (hE 2 (by omega)) (by omega)
  obtain ⟨i, li, n3, v3, g3⟩ := or_eq (md := md) (j := 3) (i := 0) (dv := 0) h (by omega) (Or.inl rfl) (hE 3 (by omega)) (by omega)
  obtain ⟨f, lf, n4, v4, g4⟩ := or_eq (md := md) (j := 4) (i := 0) (dv := 1) h (by omega) (Or.inl rfl) (hE 4 (by omega)) (by omega)
  obtain ⟨r, lr, n5, v5, g5⟩ := or_eq (md := md) (j := 5) (i := 0) (dv := hh) h (by omega) (Or.inl rfl) (hE 5 (by omega)) lh
  obtain ⟨u, lu, n6, v6, g6⟩ := or_eq (md := md) (j := 6) (i := 0) (dv := 2) h (by omega) (Or.inl rfl) (hE 6 (by omega)) (by omega)
  obtain ⟨x, lx, n7, v7, g7⟩ := or_eq (md := md) (j := 7) (i := 0) (dv := 300) h (by omega) (Or.inl rfl) (hE 7 (by omega)) (by omega)
  obtain ⟨a, la, n7', v7', g7'⟩ := or_eq (md := md) (j := 7) (i := 1) (dv := 1) h (by omega) (Or.inr ⟨rfl, by omega⟩) (hE 7 (by omega)) (by omega)
  obtain ⟨y, ly, n8, v8, g8⟩ := or_eq (md := md) (j := 8) (i := 0) (dv := 300) h (by omega) (Or.inl rfl) (hE 8 (by omega)) (by omega)
  obtain ⟨d, ld, n8', v8', g8'⟩ := or_eq (md := md) (j := 8) (i := 1) (dv := 1) h (by omega) (Or.inr ⟨rfl, by omega⟩) (hE 8 (by omega)) (by omega)
  have tn := tn_all (rd := rd) (ro := ro) (ty := ty) (ct := ct) (pl := pl) (nu := nu) (q := q) hp hp40 lw lh lc li lf lr lu la ld (by rw [ho]; exact n0 0) (by rw [ho]; exact n1 0) (by rw [ho]; exact n2) (by rw [ho]; exact n3) (by rw [ho]; exact n4) (by rw [ho]; exact n6) (by rw [ho]; exact n7) (by rw [ho]; exact n7') (by rw [ho]; exact n8) (by rw [ho]; exact n8') (by rw [ho]; exact n5)
  obtain ⟨X, hX, tn⟩ := tn
  obtain ⟨k1, k2⟩ := vals_330 (sz := sz) (mn := mn) (mf := mf) (sp := sp) (sl := sl) (P := nI p) lw lh lc li lf lr lu la ld p0 p1 p9 p10 v0 v1 v2 v3 v4 v5 v6 v7' v8' g0 g1 g2 g3 g4 g5 g6 g7' g8'
  have hwt := wt_le w hh c i f r u a d
  by_cases t0 : wtN w hh c i f r u a d = 0
  · rw [t0, nI_0] at k1 k2
    rw [if_pos t0] at tn
    obtain ⟨w1, w2, w3⟩ := wt_0 t0
    obtain ⟨S, hS⟩ : ∃ S, S = (hh + r - 1) / r := ⟨_, rfl⟩
    have hSle : S ≤ 20000 := by
      have := strips_le w1 w3
      omega
    have X6 : (M_Pn_get X (rd 2) 6).toInt32 = nI S := by
      have e : M_Pn_get X (rd 2) 6 = X (13 * p + 6) := by rw [hp]; exact pn_get (w := 6) hp40 (by omega)
      rw [e, hX, nx_6, strips_eq w1 w2 w3, lN_i, hS]
    have q9 := cp c4
    have q10 := cp d4
    have m9 : M_Md_readFour md bf ((et (9 : Int32).toNatClampNeg) + 4) = lN (r4 (md 14) bf (e9 + 4)) := by
      have e4 : nI e9 + (4 : Int32) = nI (e9 + 4) := nI_add e9 4
      rw [tc9, c1, e4]
      exact mr4 md bf (by omega)
    have m10 : M_Md_readFour md bf ((et (10 : Int32).toNatClampNeg) + 4) = lN (r4 (md 14) bf (e10 + 4)) := by
      have e4 : nI e10 + (4 : Int32) = nI (e10 + 4) := nI_add e10 4
      rw [tc10, d1, e4]
      exact mr4 md bf (by omega)
    have mg9 : G_Md_readFour md bf ((et (9 : Int32).toNatClampNeg) + 4) := by
      have e4 : nI e9 + (4 : Int32) = nI (e9 + 4) := nI_add e9 4
      rw [tc9, c1, e4]
      exact g4w md bf (by omega)
    have mg10 : G_Md_readFour md bf ((et (10 : Int32).toNatClampNeg) + 4) := by
      have e4 : nI e10 + (4 : Int32) = nI (e10 + 4) := nI_add e10 4
      rw [tc10, d1, e4]
      exact g4w md bf (by omega)
    obtain ⟨K1, K2, K3, K4⟩ := k330_cnt (md := md) (sz := sz) (bf := bf) (mn := mn) (mf := mf) (sp := sp) (sl := sl) (et := et) (w := w) (c := c) (i := i) (f := f) (u := u) hp40 ⟨w1, w2⟩ ⟨w3, lr⟩ hS hmf hSI.2.2.1 (r4_lt (md 14) bf (e9 + 4)) (r4_lt (md 14) bf (e10 + 4)) m9 m10 mg9 mg10 v7 v7' v8 v8' g7 g7' g8 g8'
    have wc := wc_val (ct := ct) (rs := rs) (S := S) (F := F) (C9 := r4 (md 14) bf (e9 + 4)) (C10 := r4 (md 14) bf (e10 + 4)) (f9.trans c6) (f10.trans d6) hSI.2.1 (by omega) (by omega) hSle hSI.2.2.1
    by_cases y9 : r4 (md 14) bf (e9 + 4) = S
    · rw [if_pos y9] at wc
      by_cases y10 : r4 (md 14) bf (e10 + 4) = S
      · rw [if_pos y10] at wc
        by_cases yF : F + S ≤ 8192
        · rw [if_pos yF] at wc
          obtain ⟨K5, K6⟩ := K4 y9 y10 yF _ rfl
          have sv : ∀ i, i < S → ∃ a l, a < 4294967296 ∧ l < 4294967296 ∧ M_En_number ro ty ct pl 273 (nI i) (rd 1) 0 = lN a ∧ M_Md_value md bf et 9 (nI i) = lN a ∧ G_Md_value md bf et 9 (nI i) ∧ M_En_number ro ty ct pl 279 (nI i) (rd 1) 0 = lN l ∧ M_Md_value md bf et 10 (nI i) = lN l ∧ G_Md_value md bf et 10 (nI i) := by
            intro i hi
            obtain ⟨s1, s2, s3⟩ := num_eq (md := md) (i := i) h (show 9 < 11 by omega) (Or.inl (by omega)) c1 c2 c3 c4 c5 c6 c7 c8
            obtain ⟨s4, s5, s6⟩ := num_eq (md := md) (i := i) h (show 10 < 11 by omega) (Or.inl (by omega)) d1 d2 d3 d4 d5 d6 d7 d8
            exact ⟨_, _, vl_lt (md 14) bf e9 i, vl_lt (md 14) bf e10 i, by rw [ho]; exact s1 0, s2, s3, by rw [ho]; exact s4 0, s5, s6⟩
          have es0 : (0 : Int32).toInt = 0 := by decide
          have eM : M_Md_stripsOf md sz bf mf sp sl et (nI p) (nI S) = L_Md_stripsOf md sz bf mf et (nI p) (nI S) (((S : Int) - 0).toNat + 1) (nI 0) sp sl := by
            unfold M_Md_stripsOf
            rw [nI_toInt (by omega), es0] <;> rfl
          have eG : GL_Md_stripsOf md sz bf mf et (nI p) (nI S) (((S : Int) - 0).toNat + 1) (nI 0) sp sl → G_Md_stripsOf md sz bf mf sp sl et (nI p) (nI S) := by
            intro t
            unfold G_Md_stripsOf
            rw [nI_toInt (by omega), es0]
            exact t
          have eC := cs_ok (ro := ro) (ty := ty) (pl := pl) (fs := fs) X6 hSle hp hp40 wc
          rw [hSI.2.1] at eC
          obtain ⟨SL, SG⟩ := strip_loop (md := md) (et := et) (fs := upd fs p (nI F)) h hp40 X6 hmf yF sv S 0 (((S : Int) - 0).toNat + 1) (((S : Int) - 0).toNat + 1) rs sp sl (by omega) (by omega) (by omega) hSI
          rw [← eC, ← eM] at SL
          refine ⟨?_, k2 (K6 (eG SG))⟩
          rcases SL with ⟨rs', sp', sl', s1, s2, s3⟩ | ⟨k, t, s, rs', sp', sl', s0, s1, s2, s3⟩
          · refine Or.inl ⟨X, rs', upd fs p (nI F), NM mn p (lN w) (lN hh) (lN c) (lN i) (lN f) (lN (if hh < r then hh else r)) (lN S) (lN u) (lN x) (lN a) (lN y) (lN d), upd mf (p + 1) (nI (F + S)), sp', sl', F + S, S, tail_4 hn tn s1, ?_, s3, rfl, rfl, rfl, nm_6, fun k hk => ⟨by rw [hX]; exact nx_low hk, nm_low hk⟩, fun k hk => ?_, by rw [hX]; exact nx_12⟩
            · rw [k1, K5, s2]
            · rw [hX, strips_eq w1 w2 w3, ← hS]
              exact nm_eq k hk
          · refine Or.inr ⟨k, t, s, X, rs', upd fs p (nI F), NM mn p (lN w) (lN hh) (lN c) (lN i) (lN f) (lN (if hh < r then hh else r)) (lN S) (lN u) (lN x) (lN a) (lN y) (lN d), mf, sp', sl', s0, tail_3 hn tn s1, ?_, s3, rfl⟩
            rw [k1, K5, s2]
        · rw [if_neg yF] at wc
          obtain ⟨K5, K6⟩ := K3 y9 y10 yF
          exact ⟨Or.inr ⟨8, 278, 0, X, rs, fs, mn, mf, sp, sl, fk8, tail_3 hn tn (cs_bad X6 wc (by decide)), k1.trans K5, hSI.1, rfl⟩, k2 K6⟩
      · rw [if_neg y10] at wc
        obtain ⟨K5, K6⟩ := K2 y9 y10
        exact ⟨Or.inr ⟨8, 279, 0, X, rs, fs, mn, mf, sp, sl, fk8, tail_3 hn tn (cs_bad X6 wc (by decide)), k1.trans K5, hSI.1, rfl⟩, k2 K6⟩
    · rw [if_neg y9] at wc
      obtain ⟨K5, K6⟩ := K1 y9
      exact ⟨Or.inr ⟨8, 273, 0, X, rs, fs, mn, mf, sp, sl, fk8, tail_3 hn tn (cs_bad X6 wc (by decide)), k1.trans K5, hSI.1, rfl⟩, k2 K6⟩
  · rw [if_neg t0] at tn
    have nt : ¬ nI (wtN w hh c i f r u a d) ≤ 0 := nI_nle (by omega) (by omega)
    obtain ⟨K5, K6⟩ := k330_bad (md := md) (sz := sz) (bf := bf) (mn := mn) (mf := mf) (sp := sp) (sl := sl) (et := et) (P := nI p) (v3 := lN w) (v5 := lN hh) (v7 := lN c) (v9 := lN i) (v11 := lN f) (v13 := lN r) (v15 := lN u) nt
    exact ⟨Or.inr ⟨7, nI (wtN w hh c i f r u a d), 0, X, rs, fs, mn, mf, sp, sl, fk7, tail_2 hn tn, k1.trans K5, hSI.1, rfl⟩, k2 K6⟩
end PRG
section PRH
/-- the pages that were read, on both sides -/
def PgI (p F : Nat) (fs mf : Nat → Int32) (nu mn : Nat → Int64) : Prop := ∀ q, q < p → (∀ w, w < 13 → nu (13 * q + w) = mn (13 * q + w)) ∧ ∃ f c, fs q = nI f ∧ mf q = nI f ∧ mn (13 * q + 6) = lN c ∧ f + c ≤ F
/-- how the reading ends, on both sides -/
def GO (md rd' : Nat → Int32) (nu' : Nat → Int64) (rs' : RowS) (fs' md' : Nat → Int32) (mn' : Nat → Int64) (mf' sp' sl' : Nat → Int32) : Prop :=
  StOK 8192 rs' ∧ mf' 0 = 0 ∧ (∀ k, k < 14 → md' k = md k) ∧ (rd' 0 = md' 15 ∧ rd' 3 = md' 16 ∧ rd' 4 = md' 17 ∧ rd' 5 = md' 18 ∧ rd' 6 = md' 19) ∧
  ((md' 16 = 0 ∧ rd' 1 = md' 14 ∧ ∃ P F, md' 15 = nI P ∧ P ≤ 40 ∧ SI F rs' sp' sl' ∧ PgI P F fs' mf' nu' mn') ∨ (FK (md' 16) ∧ md' 15 = 0 ∧ rd' 1 = 0))
section C
variable {ro : RowS} {n : Nat} {v1 : Int64} {v3 : Int32} {rd ty ct pl fs : Nat → Int32} {nu : Nat → Int64} {rs : RowS} {x : Int32 × (Nat → Int32) × (Nat → Int32) × (Nat → Int32) × (Nat → Int32) × (Nat → Int64) × RowS × (Nat → Int32)}
theorem gt_stop (h1 : ¬ 40 < v3) (h2 : ¬ v3 = 0) (h3 : lg_cmp v1 0 = 0) : L_Rd_goThrough ro (n + 1) v1 v3 rd ty ct pl nu rs fs = (upd rd 0 (rd 2 + 1), ty, ct, pl, nu, rs, fs) := by
  rw [L_Rd_goThrough, if_neg h1, if_neg h2, if_pos h3]
theorem gt_page (h1 : ¬ 40 < v3) (h2 : v3 = 0 ∨ ¬ lg_cmp v1 0 = 0) (hx : M_Rd_takePage (upd rd 2 v3) ro ty ct pl nu rs fs v1 = x) : L_Rd_goThrough ro (n + 1) v1 v3 rd ty ct pl nu rs fs = if x.1 = 0 then (x.2.1, x.2.2.1, x.2.2.2.1, x.2.2.2.2.1, x.2.2.2.2.2.1, x.2.2.2.2.2.2.1, x.2.2.2.2.2.2.2) else L_Rd_goThrough ro n (M_Row_number ro (M_Rd_linkOf x.2.1 ro v1) 4 (x.2.1 1)) (v3 + 1) x.2.1 x.2.2.1 x.2.2.2.1 x.2.2.2.2.1 x.2.2.2.2.2.1 x.2.2.2.2.2.2.1 x.2.2.2.2.2.2.2 := by
  rw [L_Rd_goThrough, if_neg h1]
  by_cases c : v3 = 0
  · rw [if_pos c]
    (try dsimp only)
    rw [hx]
  · rw [if_neg c, if_neg (h2.resolve_left c)]
    (try dsimp only)
    rw [hx]
theorem gt_no {rd' ty' ct' pl' fs' : Nat → Int32} {nu' : Nat → Int64} {rs' : RowS} (h1 : ¬ 40 < v3) (h2 : v3 = 0 ∨ ¬ lg_cmp v1 0 = 0) (hx : M_Rd_takePage (upd rd 2 v3) ro ty ct pl nu rs fs v1 = (0, rd', ty', ct', pl', nu', rs', fs')) : L_Rd_goThrough ro (n + 1) v1 v3 rd ty ct pl nu rs fs = (rd', ty', ct', pl', nu', rs', fs') := by
  rw [gt_page h1 h2 hx, if_pos p00]
theorem gt_yes {rd' ty' ct' pl' fs' : Nat → Int32} {nu' : Nat → Int64} {rs' : RowS} (h1 : ¬ 40 < v3) (h2 : v3 = 0 ∨ ¬ lg_cmp v1 0 = 0) (hx : M_Rd_takePage (upd rd 2 v3) ro ty ct pl nu rs fs v1 = (1, rd', ty', ct', pl', nu', rs', fs')) : L_Rd_goThrough ro (n + 1) v1 v3 rd ty ct pl nu rs fs = L_Rd_goThrough ro n (M_Row_number ro (M_Rd_linkOf rd' ro v1) 4 (rd' 1)) (v3 + 1) rd' ty' ct' pl' nu' rs' fs' := by
  rw [gt_page h1 h2 hx, if_neg n10p]
end C
section M
variable {sz : Int32} {bf : Nat → Int32} {n : Nat} {v1 y : Int64} {v4 : Int32} {md m' : Nat → Int32} {mn mn' : Nat → Int64} {mf sp sl et mf' sp' sl' et' : Nat → Int32}
theorem mg_end (h : md 16 ≤ 0) : L_Md_gone sz bf (n + 1) v1 0 v4 md mn mf sp sl et = (upd md 15 v4, mn, mf, sp, sl, et) ∧ GL_Md_gone sz bf (n + 1) v1 0 v4 md mn mf sp sl et := by
  rw [L_Md_gone, GL_Md_gone, if_pos rfl, if_pos rfl, if_pos h]
  exact ⟨rfl, trivial⟩
theorem mg_endF (h : ¬ md 16 ≤ 0) : L_Md_gone sz bf (n + 1) v1 0 v4 md mn mf sp sl et = (upd md 15 0, mn, mf, sp, sl, et) ∧ GL_Md_gone sz bf (n + 1) v1 0 v4 md mn mf sp sl et := by
  rw [L_Md_gone, GL_Md_gone, if_pos rfl, if_pos rfl, if_neg h]
  exact ⟨rfl, trivial⟩
theorem mg_40 (h : v4 = 40) : L_Md_gone sz bf (n + 1) v1 1 v4 md mn mf sp sl et = L_Md_gone sz bf n v1 0 v4 (MF md 2 v4 0 0) mn mf sp sl et ∧ (GL_Md_gone sz bf n v1 0 v4 (MF md 2 v4 0 0) mn mf sp sl et → GL_Md_gone sz bf (n + 1) v1 1 v4 md mn mf sp sl et) := by
  refine ⟨?_, fun q => ?_⟩
  · rw [L_Md_gone, if_neg n10, if_pos h] <;> rfl
  · rw [GL_Md_gone, if_neg n10, if_pos h]
    intro x2 h2
    rw [h2]
    exact q
theorem mg_lie (h : ¬ v4 = 40) (hl : M_Md_lies md sz bf v1 = 0) (gl : G_Md_lies md sz v1) : L_Md_gone sz bf (n + 1) v1 1 v4 md mn mf sp sl et = L_Md_gone sz bf n v1 0 v4 (MF md 2 v4 0 0) mn mf sp sl et ∧ (GL_Md_gone sz bf n v1 0 v4 (MF md 2 v4 0 0) mn mf sp sl et → GL_Md_gone sz bf (n + 1) v1 1 v4 md mn mf sp sl et) := by
  refine ⟨?_, fun q => ?_⟩
  · rw [L_Md_gone, if_neg n10, if_neg h, if_pos hl] <;> rfl
  · rw [GL_Md_gone, if_neg n10, if_neg h, if_pos hl]
    refine ⟨gl, fun x2 h2 => ?_⟩
    rw [h2]
    exact q
theorem mg_ent (h : ¬ v4 = 40) (hl : M_Md_lies md sz bf v1 = 1) (gl : G_Md_lies md sz v1) (he : M_Md_entries md sz bf et v4 v1.toInt32 = (0, m', et')) (ge : G_Md_entries md sz bf et v4 v1.toInt32) : L_Md_gone sz bf (n + 1) v1 1 v4 md mn mf sp sl et = L_Md_gone sz bf n v1 0 v4 m' mn mf sp sl et' ∧ (GL_Md_gone sz bf n v1 0 v4 m' mn mf sp sl et' → GL_Md_gone sz bf (n + 1) v1 1 v4 md mn mf sp sl et) := by
  have hl0 : ¬ M_Md_lies md sz bf v1 = 0 := by rw [hl]; exact n10
  refine ⟨?_, fun q => ?_⟩
  · rw [L_Md_gone, if_neg n10, if_neg h, if_neg hl0]
    (try dsimp only)
    rw [he, if_pos p00]
  · rw [GL_Md_gone, if_neg n10, if_neg h, if_neg hl0]
    refine ⟨gl, ge, fun x3 h3 => ?_⟩
    rw [h3, he, if_pos p00]
    exact q
theorem mg_val (h : ¬ v4 = 40) (hl : M_Md_lies md sz bf v1 = 1) (gl : G_Md_lies md sz v1) (he : M_Md_entries md sz bf et v4 v1.toInt32 = (1, md, et')) (ge : G_Md_entries md sz bf et v4 v1.toInt32) (hv : M_Md_values md sz bf mn mf sp sl et' v4 = (0, m', mn', mf', sp', sl')) (gv : G_Md_values md sz bf mn mf sp sl et' v4) : L_Md_gone sz bf (n + 1) v1 1 v4 md mn mf sp sl et = L_Md_gone sz bf n v1 0 v4 m' mn' mf' sp' sl' et' ∧ (GL_Md_gone sz bf n v1 0 v4 m' mn' mf' sp' sl' et' → GL_Md_gone sz bf (n + 1) v1 1 v4 md mn mf sp sl et) := by
  have hl0 : ¬ M_Md_lies md sz bf v1 = 0 := by rw [hl]; exact n10
  refine ⟨?_, fun q => ?_⟩
  · rw [L_Md_gone, if_neg n10, if_neg h, if_neg hl0]
    (try dsimp only)
    rw [he, if_neg n10p]
    (try dsimp only)
    rw [hv, if_pos p00]
  · rw [GL_Md_gone, if_neg n10, if_neg h, if_neg hl0]
    refine ⟨gl, ge, fun x3 h3 => ?_⟩
    rw [h3, he, if_neg n10p]
    refine ⟨gv, fun x4 h4 => ?_⟩
    rw [h4]
    (try dsimp only)
    rw [hv, if_pos p00]
    exact q
theorem mg_ok (h : ¬ v4 = 40) (hl : M_Md_lies md sz bf v1 = 1) (gl : G_Md_lies md sz v1) (he : M_Md_entries md sz bf et v4 v1.toInt32 = (1, md, et')) (ge : G_Md_entries md sz bf et v4 v1.toInt32) (hv : M_Md_values md sz bf mn mf sp sl et' v4 = (1, md, mn', mf', sp', sl')) (gv : G_Md_values md sz bf mn mf sp sl et' v4)
    (i12 : vp_in ((13 * v4) + 12) 520) (gr : G_Md_readTwo md v1.toInt32) (gf : G_Md_readFour md bf ((v1.toInt32 + 2) + (12 * (M_Md_readTwo md bf v1.toInt32)))) (hy : M_Md_readFour md bf ((v1.toInt32 + 2) + (12 * (M_Md_readTwo md bf v1.toInt32))) = y) :
    L_Md_gone sz bf (n + 1) v1 1 v4 md mn mf sp sl et = L_Md_gone sz bf n y (if lg_cmp y 0 = 0 then 0 else 1) (v4 + 1) md (vp_updL mn' ((13 * v4) + 12).toNatClampNeg v1) mf' sp' sl' et' ∧ (GL_Md_gone sz bf n y (if lg_cmp y 0 = 0 then 0 else 1) (v4 + 1) md (vp_updL mn' ((13 * v4) + 12).toNatClampNeg v1) mf' sp' sl' et' → GL_Md_gone sz bf (n + 1) v1 1 v4 md mn mf sp sl et) := by
  have hl0 : ¬ M_Md_lies md sz bf v1 = 0 := by rw [hl]; exact n10
  refine ⟨?_, fun q => ?_⟩
  · rw [L_Md_gone, if_neg n10, if_neg h, if_neg hl0]
    (try dsimp only)
    rw [he, if_neg n10p]
    (try dsimp only)
    rw [hv, if_neg n10p]
    (try dsimp only)
    rw [hy]
    by_cases c : lg_cmp y 0 = 0
    · rw [if_pos c, if_pos c]
    · rw [if_neg c, if_neg c]
  · rw [GL_Md_gone, if_neg n10, if_neg h, if_neg hl0]
    refine ⟨gl, ge, fun x3 h3 => ?_⟩
    rw [h3, he, if_neg n10p]
    refine ⟨gv, fun x4 h4 => ?_⟩
    rw [h4]
    (try dsimp only)
    rw [hv, if_neg n10p]
    refine ⟨i12, gr, gf, fun y5 h5 => ?_⟩
    rw [h5]
    (try dsimp only)
    rw [hy]
    by_cases c : lg_cmp y 0 = 0
    · rw [if_pos c] at q ⊢
      exact q
    · rw [if_neg c] at q ⊢
      exact q
end M
/-- a fault, on both sides -/
theorem go_fault {md rd : Nat → Int32} {p : Nat} {k t s : Int32} {nu' : Nat → Int64} {rs' : RowS} {fs' : Nat → Int32} {mn' : Nat → Int64} {mf' sp' sl' : Nat → Int32} (hk : FK k) (r0 : rd 0 = 0) (hrs : StOK 8192 rs') (hmf : mf' 0 = 0) : GO md (RF (upd rd 2 (nI p)) k t s) nu' rs' fs' (upd (MF md k (nI p) t s) 15 0) mn' mf' sp' sl' := by
  refine ⟨hrs, hmf, fun j hj => ?_, ⟨?_, rfl, rfl, rfl, rfl⟩, Or.inr ⟨hk, rfl, rfl⟩⟩
  · unfold MF
    rw [pk_un (by omega), pk_un (by omega), pk_un (by omega), pk_un (by omega), pk_un (by omega)]
  · show rd 0 = 0
    exact r0
set_option maxHeartbeats 2000000 in
theorem go_loop {md : Nat → Int32} {ro : RowS} {sz : Int32} {bf : Nat → Int32} {z : Nat} (h : FR ro sz bf z) (h16 : md 16 = 0) :
    ∀ (r p F f g k : Nat) (fl : Int32) (rd ty ct pl : Nat → Int32) (nu : Nat → Int64) (rs : RowS) (fs : Nat → Int32) (mn : Nat → Int64) (mf sp sl et : Nat → Int32), p + r = 40 → r < f → r + 1 < g → k < 4294967296 → ((fl = 0 ∧ 0 < p ∧ k = 0) ∨ (fl = 1 ∧ (p = 0 ∨ ¬ k = 0))) →
      (rd 0 = 0 ∧ rd 1 = md 14 ∧ rd 3 = 0 ∧ rd 4 = md 17 ∧ rd 5 = md 18 ∧ rd 6 = md 19 ∧ (0 < p → rd 2 = nI (p - 1))) → SI F rs sp sl → mf p = nI F → mf 0 = 0 → PgI p F fs mf nu mn →
      (∃ rd' ty' ct' pl' nu' rs' fs' md' mn' mf' sp' sl' et', L_Rd_goThrough ro f (lN k) (nI p) rd ty ct pl nu rs fs = (rd', ty', ct', pl', nu', rs', fs') ∧ L_Md_gone sz bf g (lN k) fl (nI p) md mn mf sp sl et = (md', mn', mf', sp', sl', et') ∧ GO md rd' nu' rs' fs' md' mn' mf' sp' sl') ∧ GL_Md_gone sz bf g (lN k) fl (nI p) md mn mf sp sl et := by
  have hz := h.2.1
  -- the end
  have fin : ∀ (p F f g k : Nat) (rd ty ct pl : Nat → Int32) (nu : Nat → Int64) (rs : RowS) (fs : Nat → Int32) (mn : Nat → Int64) (mf sp sl et : Nat → Int32), p ≤ 40 → 0 < p → k = 0 →
      (rd 0 = 0 ∧ rd 1 = md 14 ∧ rd 3 = 0 ∧ rd 4 = md 17 ∧ rd 5 = md 18 ∧ rd 6 = md 19 ∧ (0 < p → rd 2 = nI (p - 1))) → SI F rs sp sl → mf 0 = 0 → PgI p F fs mf nu mn →
      (∃ rd' ty' ct' pl' nu' rs' fs' md' mn' mf' sp' sl' et', L_Rd_goThrough ro (f + 1) (lN k) (nI p) rd ty ct pl nu rs fs = (rd', ty', ct', pl', nu', rs', fs') ∧ L_Md_gone sz bf (g + 1) (lN k) 0 (nI p) md mn mf sp sl et = (md', mn', mf', sp', sl', et') ∧ GO md rd' nu' rs' fs' md' mn' mf' sp' sl') ∧ GL_Md_gone sz bf (g + 1) (lN k) 0 (nI p) md mn mf sp sl et := by
    intro p F f g k rd ty ct pl nu rs fs mn mf sp sl et hp hp0 hk hr hS h0 hP
    obtain ⟨r0, r1, s3, s4', s5', s6', s2'⟩ := hr
    have a1 := gt_stop (ro := ro) (n := f) (v1 := lN k) (v3 := nI p) (rd := rd) (ty := ty) (ct := ct) (pl := pl) (nu := nu) (rs := rs) (fs := fs) (show ¬ (40 : Int32) < nI p from nI_nlt (a := 40) (by omega) (by omega)) (nI_ne0 hp0 (by omega)) (by rw [hk]; decide)
    obtain ⟨a2, a3⟩ := mg_end (sz := sz) (bf := bf) (n := g) (v1 := lN k) (v4 := nI p) (md := md) (mn := mn) (mf := mf) (sp := sp) (sl := sl) (et := et) (by rw [h16]; exact Int32.le_refl _)
    have e : rd 2 + 1 = nI p := by
      rw [s2' hp0, nI_1]
      congr 1
      omega
    refine ⟨⟨_, _, _, _, _, _, _, _, _, _, _, _, _, a1, a2, hS.1, h0, fun j hj => pk_un (by omega), ⟨e, s3.trans h16.symm, s4', s5', s6'⟩, Or.inl ⟨h16, r1, p, F, rfl, hp, hS, hP⟩⟩, a3⟩
  intro r
  induction r with
  | zero =>
    intro p F f g k fl rd ty ct pl nu rs fs mn mf sp sl et hp hf hg hk hfl hr hS hF h0 hP
    obtain ⟨f, rfl⟩ : ∃ f', f = f' + 1 := ⟨f - 1, by omega⟩
    obtain ⟨g, rfl⟩ : ∃ g', g = g' + 1 + 1 := ⟨g - 2, by omega⟩
    rcases hfl with ⟨q1, q2, q3⟩ | ⟨q1, q2⟩
    · rw [q1]
      exact fin p F f (g + 1) k rd ty ct pl nu rs fs mn mf sp sl et (by omega) q2 q3 hr hS h0 hP
    · have ep : p = 40 := by omega
      subst ep
      have k0 : ¬ lg_cmp (lN k) 0 = 0 := by
        rw [lg_cmp_eq]
        intro t
        have t2 : lN k = lN 0 := t
        rw [pk_lEQ (by omega) (by omega)] at t2
        exact (q2.resolve_left (by omega)) t2
      rw [q1]
      have tp := tp_40 (rd := upd rd 2 (nI 40)) (ro := ro) (ty := ty) (ct := ct) (pl := pl) (nu := nu) (rs := rs) (fs := fs) (q := lN k) (Int32.le_refl (nI 40))
      have a1 := gt_no (n := f) (show ¬ (40 : Int32) < nI 40 by decide) (Or.inr k0) tp
      obtain ⟨a2, a3⟩ := mg_40 (sz := sz) (bf := bf) (n := g + 1) (v1 := lN k) (v4 := nI 40) (md := md) (mn := mn) (mf := mf) (sp := sp) (sl := sl) (et := et) rfl
      obtain ⟨a4, a5⟩ := mg_endF (sz := sz) (bf := bf) (n := g) (v1 := lN k) (v4 := nI 40) (md := MF md 2 (nI 40) 0 0) (mn := mn) (mf := mf) (sp := sp) (sl := sl) (et := et) fk2.1
      exact ⟨⟨_, _, _, _, _, _, _, _, _, _, _, _, _, a1, a2.trans a4, go_fault fk2 hr.1 hS.1 h0⟩, a3 a5⟩
  | succ r ih =>
    intro p F f g k fl rd ty ct pl nu rs fs mn mf sp sl et hp hf hg hk hfl hr hS hF h0 hP
    obtain ⟨f, rfl⟩ : ∃ f', f = f' + 1 := ⟨f - 1, by omega⟩
    obtain ⟨g, rfl⟩ : ∃ g', g = g' + 1 + 1 := ⟨g - 2, by omega⟩
    rcases hfl with ⟨q1, q2, q3⟩ | ⟨q1, q2⟩
    · rw [q1]
      exact fin p F f (g + 1) k rd ty ct pl nu rs fs mn mf sp sl et (by omega) q2 q3 hr hS h0 hP
    have hp40 : p < 40 := by omega
    have k0 : nI p = 0 ∨ ¬ lg_cmp (lN k) 0 = 0 := by
      rcases q2 with q2 | q2
      · left
        rw [q2]
        exact nI_0
      · right
        rw [lg_cmp_eq]
        intro t
        have t2 : lN k = lN 0 := t
        rw [pk_lEQ (by omega) (by omega)] at t2
        exact q2 t2
    have n40 : ¬ (40 : Int32) < nI p := nI_nlt (a := 40) (by omega) (by omega)
    have e40 : ¬ nI p = 40 := fun t => by
      have t2 : nI p = nI 40 := t
      rw [nI_eq (by omega) (by omega)] at t2
      omega
    rw [q1]
    obtain ⟨r0, r1, s3, s4', s5', s6', -⟩ := hr
    obtain ⟨rd1, hrd1⟩ : ∃ rd1, rd1 = upd rd 2 (nI p) := ⟨_, rfl⟩
    have o1 : rd1 1 = md 14 := by rw [hrd1]; exact r1
    have o2 : rd1 2 = nI p := by rw [hrd1]; rfl
    have nle : ¬ 40 ≤ rd1 2 := by rw [o2]; exact nI_ge (b := 40) (by omega) (by omega)
    have ek : (lN k).toInt32 = nI k := lN_i k
    -- a fault of this page
    have bad : ∀ (kk t s : Int32) (ty' ct' pl' : Nat → Int32) (nu' : Nat → Int64) (rs' : RowS) (fs' : Nat → Int32) (mn' : Nat → Int64) (mf' sp' sl' et' : Nat → Int32), FK kk → M_Rd_takePage rd1 ro ty ct pl nu rs fs (lN k) = (0, RF rd1 kk t s, ty', ct', pl', nu', rs', fs') → StOK 8192 rs' → mf' 0 = 0 →
        (L_Md_gone sz bf (g + 1 + 1) (lN k) 1 (nI p) md mn mf sp sl et = L_Md_gone sz bf (g + 1) (lN k) 0 (nI p) (MF md kk (nI p) t s) mn' mf' sp' sl' et' ∧ (GL_Md_gone sz bf (g + 1) (lN k) 0 (nI p) (MF md kk (nI p) t s) mn' mf' sp' sl' et' → GL_Md_gone sz bf (g + 1 + 1) (lN k) 1 (nI p) md mn mf sp sl et)) →
        (∃ rd' ty' ct' pl' nu' rs' fs' md' mn' mf' sp' sl' et', L_Rd_goThrough ro (f + 1) (lN k) (nI p) rd ty ct pl nu rs fs = (rd', ty', ct', pl', nu', rs', fs') ∧ L_Md_gone sz bf (g + 1 + 1) (lN k) 1 (nI p) md mn mf sp sl et = (md', mn', mf', sp', sl', et') ∧ GO md rd' nu' rs' fs' md' mn' mf' sp' sl') ∧ GL_Md_gone sz bf (g + 1 + 1) (lN k) 1 (nI p) md mn mf sp sl et := by
      intro kk t s ty' ct' pl' nu' rs' fs' mn' mf' sp' sl' et' hkk tp hrs hm0 hm
      rw [hrd1] at tp
      have a1 := gt_no (n := f) n40 k0 tp
      obtain ⟨a4, a5⟩ := mg_endF (sz := sz) (bf := bf) (n := g) (v1 := lN k) (v4 := nI p) (md := MF md kk (nI p) t s) (mn := mn') (mf := mf') (sp := sp') (sl := sl') (et := et') hkk.1
      exact ⟨⟨_, _, _, _, _, _, _, _, _, _, _, _, _, a1, hm.1.trans a4, go_fault hkk r0 hrs hm0⟩, hm.2 a5⟩
    rcases dir_eq h o1 hk with ⟨d1, d2, d3⟩ | ⟨d1, d2, d3, d4, d5, d6, d7, d8⟩
    · exact bad 2 0 0 ty ct pl nu rs fs mn mf sp sl et fk2 (tp_dir nle d1) hS.1 h0 (mg_lie e40 d2 d3)
    obtain ⟨ea, eg⟩ := ents_all (nI p) h o1 (by omega) d7 ty ct pl et
    rw [← ek] at ea eg
    rcases ea with ⟨ty', ct', pl', et', e1, e2, e3⟩ | ⟨kk, t, ty', ct', pl', et', e0, e1, e2⟩
    · obtain ⟨ta, tg'⟩ := tail_all (nu := nu) (fs := fs) (mn := mn) h o1 o2 hp40 e3 hS hF (lN k)
      rcases ta with ⟨nu', rs', fs', mn', mf', sp', sl', F', c, t1, t2, t3, t4, t5, t6, t7, t8, t9, t10⟩ | ⟨kk, t, s, nu', rs', fs', mn', mf', sp', sl', t0, t1, t2, t3, t4⟩
      · have tp : M_Rd_takePage rd1 ro ty ct pl nu rs fs (lN k) = (1, rd1, ty', ct', pl', nu', rs', fs') := tp_val (nu := nu) (rs := rs) (fs := fs) nle d1 e1 t1
        rw [hrd1] at tp
        have a1 := gt_yes (n := f) n40 k0 tp
        rw [← hrd1] at a1
        have hv := r2_lt (md 14) bf k
        have kz : k < 65536 := by omega
        have b2 : M_Md_readTwo md bf (lN k).toInt32 = nI (r2 (md 14) bf k) := by rw [ek]; exact mr2 md bf (by omega)
        have ee : ((lN k).toInt32 + 2) + (12 * (M_Md_readTwo md bf (lN k).toInt32)) = nI (k + 2 + 12 * r2 (md 14) bf k) := by
          have x1 : nI k + (2 : Int32) = nI (k + 2) := nI_add k 2
          have x2 : (12 : Int32) * nI (r2 (md 14) bf k) = nI (12 * r2 (md 14) bf k) := pk_mul 12 _
          rw [b2, ek, x1, x2, nI_add]
        obtain ⟨y, hy⟩ : ∃ y, y = r4 (md 14) bf (k + 2 + 12 * r2 (md 14) bf k) := ⟨_, rfl⟩
        have ylt : y < 4294967296 := by rw [hy]; exact r4_lt _ _ _
        have b4 : M_Md_readFour md bf (((lN k).toInt32 + 2) + (12 * (M_Md_readTwo md bf (lN k).toInt32))) = lN y := by
          rw [ee, hy]
          exact mr4 md bf (by omega)
        have c4 : M_Row_number ro (M_Rd_linkOf rd1 ro (lN k)) 4 (rd1 1) = lN y := by
          rw [d8, o1, hy]
          exact cr4 h (md 14) (by omega)
        have x13 : ((13 : Int32) * nI p) + 12 = nI (13 * p + 12) := m13 p 12
        have cl : (((13 : Int32) * nI p) + 12).toNatClampNeg = 13 * p + 12 := by rw [x13]; exact nI_clamp (by omega)
        obtain ⟨m1, m2⟩ := mg_ok (n := g + 1) e40 d2 d3 e2 eg t2 tg' (by rw [x13]; exact vp_in_nI (by omega) (by omega)) (by rw [ek]; exact g2 md (by omega)) (by rw [ee]; exact g4 md bf (by omega)) b4
        rw [cl, nI_1] at m1 m2
        rw [nI_1, c4] at a1
        have hfl : (((if lg_cmp (lN y) 0 = 0 then 0 else 1) : Int32) = 0 ∧ 0 < p + 1 ∧ y = 0) ∨ (((if lg_cmp (lN y) 0 = 0 then 0 else 1) : Int32) = 1 ∧ (p + 1 = 0 ∨ ¬ y = 0)) := by
          have ky : lg_cmp (lN y) 0 = 0 ↔ y = 0 := by rw [lg_cmp_eq]; exact pk_lEQ (b := 0) (by omega) (by omega)
          by_cases cy : y = 0
          · rw [if_pos (ky.mpr cy)]
            exact Or.inl ⟨rfl, by omega, cy⟩
          · rw [if_neg (fun t => cy (ky.mp t))]
            exact Or.inr ⟨rfl, Or.inr cy⟩
        have low : ∀ j, j < 13 * p → vp_updL mn' (13 * p + 12) (lN k) j = mn' j := fun j hj => pk_uLn (by omega)
        have hPg : PgI (p + 1) F' fs' mf' nu' (vp_updL mn' (13 * p + 12) (lN k)) := by
          intro q hq
          by_cases cq : q = p
          · rw [cq]
            refine ⟨fun w hw => ?_, F, c, by rw [t5]; exact pk_us, by rw [t4, pk_un (by omega)]; exact hF, by rw [pk_uLn (by omega)]; exact t7, by omega⟩
            by_cases cw : w = 12
            · rw [cw, t10]
              exact pk_uLs.symm
            · rw [t9 w (by omega), pk_uLn (by omega)]
          · obtain ⟨s1, f', c', s2, s3, s4, s5⟩ := hP q (by omega)
            refine ⟨fun w hw => ?_, f', c', by rw [t5, pk_un cq]; exact s2, by rw [t4, pk_un (by omega)]; exact s3, by rw [low _ (by omega), (t8 _ (by omega)).2]; exact s4, by omega⟩
            rw [(t8 _ (by omega)).1, low _ (by omega), (t8 _ (by omega)).2]
            exact s1 w hw
        have hr1 : rd1 0 = 0 ∧ rd1 1 = md 14 ∧ rd1 3 = 0 ∧ rd1 4 = md 17 ∧ rd1 5 = md 18 ∧ rd1 6 = md 19 ∧ (0 < p + 1 → rd1 2 = nI (p + 1 - 1)) := by
          refine ⟨?_, o1, ?_, ?_, ?_, ?_, fun _ => o2⟩
          · rw [hrd1]; exact r0
          · rw [hrd1]; exact s3
          · rw [hrd1]; exact s4'
          · rw [hrd1]; exact s5'
          · rw [hrd1]; exact s6'
        obtain ⟨b, bg⟩ := ih (p + 1) F' f (g + 1) y (if lg_cmp (lN y) 0 = 0 then 0 else 1) rd1 ty' ct' pl' nu' rs' fs' (vp_updL mn' (13 * p + 12) (lN k)) mf' sp' sl' et' (by omega) (by omega) (by omega) ylt hfl hr1 t3 (by rw [t4]; exact pk_us) (by rw [t4, pk_un (by omega)]; exact h0) hPg
        rw [a1, m1]
        exact ⟨b, m2 bg⟩
      · have tp : M_Rd_takePage rd1 ro ty ct pl nu rs fs (lN k) = (0, RF rd1 kk t s, ty', ct', pl', nu', rs', fs') := tp_val (nu := nu) (rs := rs) (fs := fs) nle d1 e1 t1
        exact bad kk t s ty' ct' pl' nu' rs' fs' mn' mf' sp' sl' et' t0 tp t3 (by rw [t4]; exact h0) (mg_val e40 d2 d3 e2 eg t2 tg')
    · exact bad kk t 0 ty' ct' pl' nu rs fs mn mf sp sl et' e0 (tp_ent nle d1 e1) hS.1 h0 (mg_ent e40 d2 d3 e2 eg)
end PRH
section PRI
theorem RelM.sameM {mk : Nat → Int32} {st : RowS} {md md' : Nat → Int32} {sz fr : Int32} {mp ml : Nat → Int32} (h : RelM mk st md sz fr mp ml) (e : ∀ k, 1 ≤ k → k < 14 → md' k = md k) : RelM mk st md' sz fr mp ml := by
  unfold RelM at h ⊢
  rw [e 1 (by omega) (by omega), e 2 (by omega) (by omega), e 3 (by omega) (by omega), e 4 (by omega) (by omega), e 5 (by omega) (by omega), e 6 (by omega) (by omega), e 7 (by omega) (by omega), e 8 (by omega) (by omega), e 9 (by omega) (by omega), e 10 (by omega) (by omega), e 11 (by omega) (by omega), e 12 (by omega) (by omega), e 13 (by omega) (by omega)]
  exact h
/-- the reader, when it begins -/
def R0 (rd : Nat → Int32) : Nat → Int32 := upd (upd (upd (upd rd 0 0) 1 0) 2 0) 3 0
section H
variable {ro : RowS} {rd ty ct pl fs : Nat → Int32} {nu : Nat → Int64} {rs : RowS}
theorem th_bad (h : ro.2.2 < 8 ∨ M_PF_isOrder (M_Row_at ro 0) = 0 ∨ ¬ M_Row_at ro 1 = M_Row_at ro 0 ∨ ¬ lg_cmp (M_Row_number ro 2 2 (M_Row_at ro 0)) 42 = 0) : M_Rd_takeHead rd ro = (0, RF rd 1 0 0) := by
  unfold M_Rd_takeHead
  by_cases c1 : ro.2.2 < 8
  · rw [if_pos c1] <;> rfl
  rw [if_neg c1]
  by_cases c2 : M_PF_isOrder (M_Row_at ro 0) = 0
  · rw [if_pos c2] <;> rfl
  rw [if_neg c2]
  by_cases c3 : M_Row_at ro 1 = M_Row_at ro 0
  · rw [if_pos c3, if_neg (((h.resolve_left c1).resolve_left c2).resolve_left (fun t => t c3))] <;> rfl
  · rw [if_neg c3] <;> rfl
theorem th_ok (h1 : ¬ ro.2.2 < 8) (h2 : ¬ M_PF_isOrder (M_Row_at ro 0) = 0) (h3 : M_Row_at ro 1 = M_Row_at ro 0) (h4 : lg_cmp (M_Row_number ro 2 2 (M_Row_at ro 0)) 42 = 0) : M_Rd_takeHead rd ro = (1, upd rd 1 (M_Row_at ro 0)) := by
  unfold M_Rd_takeHead
  rw [if_neg h1, if_neg h2, if_pos h3, if_pos h4]
theorem gt_bad (h : M_Rd_takeHead (R0 rd) ro = (0, RF (R0 rd) 1 0 0)) : M_Rd_goThrough rd ro ty ct pl nu rs fs = (RF (R0 rd) 1 0 0, ty, ct, pl, nu, (rs.1, rs.2.1, 0), fs) := by
  unfold M_Rd_goThrough M_Rd_forgetAll
  (try dsimp only)
  unfold R0 at h
  rw [h, if_pos p00] <;> rfl
theorem gt_ok {o : Int32} (h : M_Rd_takeHead (R0 rd) ro = (1, upd (R0 rd) 1 o)) : M_Rd_goThrough rd ro ty ct pl nu rs fs = L_Rd_goThrough ro 42 (M_Row_number ro 4 4 o) (nI 0) (upd (R0 rd) 1 o) ty ct pl nu (rs.1, rs.2.1, 0) fs := by
  have e : (((41 : Int32).toInt - (0 : Int32).toInt).toNat + 1) = 42 := by decide
  unfold M_Rd_goThrough M_Rd_forgetAll
  (try dsimp only)
  unfold R0 at h ⊢
  rw [h, if_neg n10p, e] <;> rfl
end H
section M
variable {md : Nat → Int32} {sz : Int32} {bf : Nat → Int32} {mn : Nat → Int64} {mf sp sl et : Nat → Int32}
theorem k103_0 {m : Nat → Int32} : K_Md_read_103 sz bf mn mf sp sl et 0 m = K_Md_read_133 (MF m 1 0 0 0) mn mf sp sl et ∧ GK_Md_read_103 sz bf mn mf sp sl et 0 m := by
  refine ⟨?_, ?_⟩
  · unfold K_Md_read_103
    rw [if_pos rfl] <;> rfl
  · unfold GK_Md_read_103
    rw [if_pos rfl]
    exact fun _ _ => trivial
theorem k103_no {m : Nat → Int32} (h : ¬ M_Md_readTwo m bf 2 = 42) (g : G_Md_readTwo m 2) : K_Md_read_103 sz bf mn mf sp sl et 1 m = K_Md_read_133 (MF m 1 0 0 0) mn mf sp sl et ∧ GK_Md_read_103 sz bf mn mf sp sl et 1 m := by
  refine ⟨?_, ?_⟩
  · unfold K_Md_read_103
    rw [if_neg n10, if_neg h] <;> rfl
  · unfold GK_Md_read_103
    rw [if_neg n10, if_neg h]
    exact ⟨g, fun _ _ => trivial⟩
theorem k103_ok {m : Nat → Int32} {X : (Nat → Int32) × (Nat → Int64) × (Nat → Int32) × (Nat → Int32) × (Nat → Int32) × (Nat → Int32)} (h : M_Md_readTwo m bf 2 = 42) (g : G_Md_readTwo m 2) (hX : M_Md_gone m sz bf mn mf sp sl et = X) (gX : G_Md_gone m sz bf mn mf sp sl et) : K_Md_read_103 sz bf mn mf sp sl et 1 m = K_Md_read_133 X.1 X.2.1 X.2.2.1 X.2.2.2.1 X.2.2.2.2.1 X.2.2.2.2.2 ∧ GK_Md_read_103 sz bf mn mf sp sl et 1 m := by
  refine ⟨?_, ?_⟩
  · unfold K_Md_read_103
    rw [if_neg n10, if_pos h]
    (try dsimp only)
    rw [hX]
  · unfold GK_Md_read_103
    rw [if_neg n10, if_pos h]
    exact ⟨g, gX, fun _ _ => trivial⟩
/-- the reference, when it begins -/
def M0 (md : Nat → Int32) (y : Int32) : Nat → Int32 := upd (upd (upd (upd md 0 0) 14 y) 15 0) 16 0
theorem rd_small (h1 : md 1 = 0) (h : sz < 8) (h' : ¬ 8 ≤ sz) : M_Md_read md sz bf mn mf sp sl et = K_Md_read_103 sz bf mn mf sp sl et 0 (M0 md 0) ∧ (GK_Md_read_103 sz bf mn mf sp sl et 0 (M0 md 0) → G_Md_read md sz bf mn mf sp sl et) := by
  refine ⟨?_, fun q => ?_⟩
  · unfold M_Md_read
    rw [if_pos h1, if_neg h', if_pos h] <;> rfl
  · unfold G_Md_read
    rw [if_pos h1, if_neg h', if_pos h]
    exact q
theorem rd_head (h1 : md 1 = 0) (h : ¬ sz < 8) (h' : 8 ≤ sz) (g0 : G_Md_at 0) (g1 : G_Md_at 1) : ∃ v : Int32, ((M_Md_at bf 0 = M_Md_at bf 1 ∧ (M_Md_at bf 0 = 73 ∨ M_Md_at bf 0 = 77) ∧ v = 1) ∨ (¬ (M_Md_at bf 0 = M_Md_at bf 1 ∧ (M_Md_at bf 0 = 73 ∨ M_Md_at bf 0 = 77)) ∧ v = 0)) ∧ M_Md_read md sz bf mn mf sp sl et = K_Md_read_103 sz bf mn mf sp sl et v (M0 md (M_Md_at bf 0)) ∧ (GK_Md_read_103 sz bf mn mf sp sl et v (M0 md (M_Md_at bf 0)) → G_Md_read md sz bf mn mf sp sl et) := by
  unfold M_Md_read G_Md_read
  rw [if_pos h1, if_pos h1, if_pos h', if_pos h']
  (try dsimp only)
  rw [if_neg h]
  by_cases c1 : M_Md_at bf 0 = M_Md_at bf 1
  · rw [if_pos c1]
    by_cases c2 : M_Md_at bf 0 = 73
    · rw [if_pos c2]
      refine ⟨1, Or.inl ⟨c1, Or.inl c2, rfl⟩, rfl, fun q => ⟨g0, fun y5 h5 => ?_⟩⟩
      rw [if_neg h, if_pos c1, h5, if_pos c2]
      exact ⟨g0, g1, q⟩
    · rw [if_neg c2]
      by_cases c3 : M_Md_at bf 0 = 77
      · rw [if_pos c3]
        refine ⟨1, Or.inl ⟨c1, Or.inr c3, rfl⟩, rfl, fun q => ⟨g0, fun y5 h5 => ?_⟩⟩
        rw [if_neg h, if_pos c1, h5, if_neg c2, if_pos c3]
        exact ⟨g0, g1, q⟩
      · rw [if_neg c3]
        refine ⟨0, Or.inr ⟨fun t => t.2.elim c2 c3, rfl⟩, rfl, fun q => ⟨g0, fun y5 h5 => ?_⟩⟩
        rw [if_neg h, if_pos c1, h5, if_neg c2, if_neg c3]
        exact ⟨g0, g1, q⟩
  · rw [if_neg c1]
    refine ⟨0, Or.inr ⟨fun t => c1 t.1, rfl⟩, rfl, fun q => ⟨g0, fun y5 h5 => ?_⟩⟩
    rw [if_neg h, if_neg c1, h5]
    exact ⟨g0, g1, q⟩
end M
theorem nle_of_lt8 {sz : Int32} (h : sz < 8) : ¬ 8 ≤ sz := fun q => by
  rw [i32_lt] at h
  rw [i32_le] at q
  omega
theorem le_of_nlt8 {sz : Int32} (h : ¬ sz < 8) : 8 ≤ sz := by
  rw [i32_lt] at h
  rw [i32_le]
  omega
/-- no head -/
theorem go_head {md rd : Nat → Int32} {y : Int32} {nu : Nat → Int64} {rs : RowS} {fs : Nat → Int32} {mn : Nat → Int64} {mf sp sl : Nat → Int32} (hrs : StOK 8192 rs) (hmf : mf 0 = 0) : GO (upd md 0 0) (RF (R0 rd) 1 0 0) nu (rs.1, rs.2.1, 0) fs (MF (M0 md y) 1 0 0 0) mn mf sp sl := by
  refine ⟨hrs.z0, hmf, fun j hj => ?_, ⟨rfl, rfl, rfl, rfl, rfl⟩, Or.inr ⟨fk1, rfl, rfl⟩⟩
  unfold MF M0
  rw [pk_un (by omega), pk_un (by omega), pk_un (by omega), pk_un (by omega), pk_un (by omega), pk_un (by omega), pk_un (by omega)]
set_option maxHeartbeats 2000000 in
theorem read_all {ro : RowS} {rd : Nat → Int32} {nu : Nat → Int64} {rs : RowS} {fs md : Nat → Int32} {sz : Int32} {bf : Nat → Int32} {mn : Nat → Int64} {mf sp sl : Nat → Int32} {z : Nat} (h : FR ro sz bf z) (hrs : StOK 8192 rs) (hR : RelR rd nu rs fs md mn mf sp sl) (h1 : md 1 = 0) (ty ct pl et : Nat → Int32) :
    (∃ rd' ty' ct' pl' nu' rs' fs' md' mn' mf' sp' sl' et', M_Rd_goThrough rd ro ty ct pl nu rs fs = (rd', ty', ct', pl', nu', rs', fs') ∧ M_Md_read md sz bf mn mf sp sl et = K_Md_read_133 md' mn' mf' sp' sl' et' ∧ GO (upd md 0 0) rd' nu' rs' fs' md' mn' mf' sp' sl') ∧ G_Md_read md sz bf mn mf sp sl et := by
  have hz := h.2.1
  obtain ⟨⟨r0, r1, r3, s4, s5, s6, hm0⟩, -⟩ := hR
  have es : ro.2.2 = sz := by rw [h.2.2.1, h.2.2.2.1]
  by_cases c8 : sz < 8
  · have a1 := gt_bad (ty := ty) (ct := ct) (pl := pl) (nu := nu) (rs := rs) (fs := fs) (th_bad (rd := R0 rd) (ro := ro) (Or.inl (by rw [es]; exact c8)))
    obtain ⟨a2, a3⟩ := rd_small (bf := bf) (mn := mn) (mf := mf) (sp := sp) (sl := sl) (et := et) h1 c8 (nle_of_lt8 c8)
    obtain ⟨a4, a5⟩ := k103_0 (sz := sz) (bf := bf) (mn := mn) (mf := mf) (sp := sp) (sl := sl) (et := et) (m := M0 md 0)
    exact ⟨⟨_, _, _, _, _, _, _, _, _, _, _, _, _, a1, a2.trans a4, go_head hrs hm0⟩, a3 a5⟩
  have c8' := le_of_nlt8 c8
  have z8 : 8 ≤ z := by
    have q : nI 8 ≤ nI z := by rw [← h.2.2.2.1]; exact c8'
    rw [nI_leI (by omega) (by omega)] at q
    exact q
  have i0 : G_Md_at 0 := vp_in_nI (n := 0) (by omega) (by omega)
  have i1 : G_Md_at 1 := vp_in_nI (n := 1) (by omega) (by omega)
  have m0 : M_Md_at bf 0 = nI (bv (bf 0)) := mat_in (m := 0) (by omega)
  have m1 : M_Md_at bf 1 = nI (bv (bf 1)) := mat_in (m := 1) (by omega)
  have b0 : M_Row_at ro 0 = nI (bv (bf 0)) := at_in (m := 0) h (by omega)
  have b1 : M_Row_at ro 1 = nI (bv (bf 1)) := at_in (m := 1) h (by omega)
  have e0 : M_Row_at ro 0 = M_Md_at bf 0 := b0.trans m0.symm
  have e1 : M_Row_at ro 1 = M_Md_at bf 1 := b1.trans m1.symm
  obtain ⟨v, hv, a2, a3⟩ := rd_head (md := md) (bf := bf) (mn := mn) (mf := mf) (sp := sp) (sl := sl) (et := et) h1 c8 c8' i0 i1
  have c8r : ¬ ro.2.2 < 8 := by rw [es]; exact c8
  -- no head
  have bad : M_Rd_takeHead (R0 rd) ro = (0, RF (R0 rd) 1 0 0) → (K_Md_read_103 sz bf mn mf sp sl et v (M0 md (M_Md_at bf 0)) = K_Md_read_133 (MF (M0 md (M_Md_at bf 0)) 1 0 0 0) mn mf sp sl et ∧ GK_Md_read_103 sz bf mn mf sp sl et v (M0 md (M_Md_at bf 0))) → (∃ rd' ty' ct' pl' nu' rs' fs' md' mn' mf' sp' sl' et', M_Rd_goThrough rd ro ty ct pl nu rs fs = (rd', ty', ct', pl', nu', rs', fs') ∧ M_Md_read md sz bf mn mf sp sl et = K_Md_read_133 md' mn' mf' sp' sl' et' ∧ GO (upd md 0 0) rd' nu' rs' fs' md' mn' mf' sp' sl') ∧ G_Md_read md sz bf mn mf sp sl et := by
    intro t1 t2
    exact ⟨⟨_, _, _, _, _, _, _, _, _, _, _, _, _, gt_bad t1, a2.trans t2.1, go_head hrs hm0⟩, a3 t2.2⟩
  rcases hv with ⟨w1, w2, w3⟩ | ⟨w1, w3⟩
  · rw [w3] at bad a2 a3
    obtain ⟨o, ho⟩ : ∃ o, o = M_Md_at bf 0 := ⟨_, rfl⟩
    rw [← ho] at a2 a3 bad e0 w2
    have n2 : M_Row_number ro 2 2 (M_Row_at ro 0) = lN (r2 o bf 2) := by
      rw [e0]
      exact cr2 (m := 2) h o (by omega)
    have t2 : M_Md_readTwo (M0 md o) bf 2 = nI (r2 o bf 2) := mr2 (M0 md o) bf (m := 2) (by omega)
    have tg2 : G_Md_readTwo (M0 md o) 2 := g2 (M0 md o) (m := 2) (by omega)
    have hr2 := r2_lt o bf 2
    have k42 : lg_cmp (lN (r2 o bf 2)) 42 = 0 ↔ r2 o bf 2 = 42 := by rw [lg_cmp_eq]; exact pk_lEQ (b := 42) (by omega) (by omega)
    have k42' : nI (r2 o bf 2) = 42 ↔ r2 o bf 2 = 42 := nI_eq (b := 42) (by omega) (by omega)
    by_cases c42 : r2 o bf 2 = 42
    · have ord : ¬ M_PF_isOrder (M_Row_at ro 0) = 0 := by
        rw [e0]
        rcases order_cases o with ⟨-, q1, q2⟩ | ⟨q1, -⟩
        · exact absurd w2 (fun t => t.elim q1 q2)
        · rw [q1]; exact n10
      have th := th_ok (rd := R0 rd) (ro := ro) c8r ord (by rw [e0, e1, ho]; exact w1.symm) (by rw [n2]; exact k42.mpr c42)
      rw [e0] at th
      have a1 := gt_ok (ty := ty) (ct := ct) (pl := pl) (nu := nu) (rs := rs) (fs := fs) th
      have c4 : M_Row_number ro 4 4 o = lN (r4 o bf 4) := cr4 (m := 4) h o (by omega)
      rw [c4] at a1
      have eM : upd (M0 md o) 15 0 14 = o := rfl
      have t4 : M_Md_readFour (upd (M0 md o) 15 0) bf 4 = lN (r4 o bf 4) := mr4 (upd (M0 md o) 15 0) bf (m := 4) (by omega)
      have tg4 : G_Md_readFour (upd (M0 md o) 15 0) bf 4 := g4 (upd (M0 md o) 15 0) bf (m := 4) (by omega)
      have e43 : (((42 : Int32).toInt - (0 : Int32).toInt).toNat + 1) = 43 := by decide
      have hSI : SI 0 (rs.1, rs.2.1, 0) sp sl := ⟨hrs.z0, nI_zero, by omega, fun k hk => absurd hk (Nat.not_lt_zero k)⟩
      obtain ⟨⟨rd', ty', ct', pl', nu', rs', fs', md', mn', mf', sp', sl', et', b1', b2', b3'⟩, bg⟩ := go_loop (md := upd (M0 md o) 15 0) h rfl 40 0 0 42 43 (r4 o bf 4) 1 (upd (R0 rd) 1 o) ty ct pl nu (rs.1, rs.2.1, 0) fs mn mf sp sl et (by omega) (by omega) (by omega) (r4_lt o bf 4) (Or.inr ⟨rfl, Or.inl rfl⟩) ⟨rfl, rfl, rfl, s4, s5, s6, fun t => absurd t (Nat.lt_irrefl 0)⟩ hSI (hm0.trans nI_zero) hm0 (fun q hq => absurd hq (Nat.not_lt_zero q))
      have gn : M_Md_gone (M0 md o) sz bf mn mf sp sl et = (md', mn', mf', sp', sl', et') := by
        unfold M_Md_gone
        (try dsimp only)
        rw [t4, e43]
        exact b2'
      have gg : G_Md_gone (M0 md o) sz bf mn mf sp sl et := by
        unfold G_Md_gone
        refine ⟨tg4, fun y1 hy => ?_⟩
        rw [hy, t4, e43]
        exact bg
      obtain ⟨q1, q2⟩ := k103_ok (by rw [t2]; exact k42'.mpr c42) tg2 gn gg
      refine ⟨⟨rd', ty', ct', pl', nu', rs', fs', md', mn', mf', sp', sl', et', a1.trans b1', a2.trans q1, ?_⟩, a3 q2⟩
      obtain ⟨G1, G2, G3, G4, G5⟩ := b3'
      refine ⟨G1, G2, fun j hj => ?_, G4, G5⟩
      rw [G3 j hj]
      unfold M0
      rw [pk_un (by omega), pk_un (by omega), pk_un (by omega), pk_un (by omega)]
    · refine bad (th_bad (Or.inr (Or.inr (Or.inr ?_)))) (k103_no ?_ tg2)
      · rw [n2]
        exact fun t => c42 (k42.mp t)
      · rw [t2]
        exact fun t => c42 (k42'.mp t)
  · rw [w3] at bad a2 a3
    refine bad (th_bad ?_) k103_0
    by_cases d1 : M_PF_isOrder (M_Row_at ro 0) = 0
    · exact Or.inr (Or.inl d1)
    · refine Or.inr (Or.inr (Or.inl ?_))
      rcases order_cases (M_Row_at ro 0) with ⟨q1, -⟩ | ⟨-, q2⟩
      · exact absurd q1 d1
      · intro t
        rw [e0] at q2 t
        rw [e1] at t
        exact w1 ⟨t.symm, q2⟩
theorem ag_read : AG_read := by
  intro mk ro st rd nu rs fs md sz fr bf mp ml mn mf sp sl ty ct pl et hR ou
  obtain ⟨hro, hst, hrs, hF, hM, hRd⟩ := id hR
  obtain ⟨z, hz⟩ := FR.of hro hF
  have m0 : mk 0 = md 1 := hM.1.1
  by_cases c1 : md 1 = 0
  · obtain ⟨⟨rd', ty', ct', pl', nu', rs', fs', md', mn', mf', sp', sl', et', a1, a2, a3⟩, -⟩ := read_all hz hrs hRd c1 ty ct pl et
    obtain ⟨G1, G2, G3, ⟨x0, x3, x4, x5, x6⟩, G5⟩ := a3
    have k0 : mk 0 = 0 := m0.trans c1
    have hT : T_PF_read mk = 0 := by unfold T_PF_read; rw [if_pos k0]
    have out : ∃ v md'', M_Md_read md sz bf mn mf sp sl et = (v, md'', mn', mf', sp', sl', et') ∧ M_PF_read mk ro rd ty ct pl nu rs fs = (v, rd', ty', ct', pl', nu', rs', fs') ∧ (∀ k, k < 14 → md'' k = md' k) ∧ RelR rd' nu' rs' fs' md'' mn' mf' sp' sl' := by
      rcases G5 with ⟨y1, y2, P, F, y3, y4, y5, y6⟩ | ⟨y1, y2, y3⟩
      · refine ⟨md' 15, upd md' 14 (md' 14), ?_, ?_, fun k hk => pk_un (by omega), ⟨x0, y2, x3, x4, x5, x6, G2⟩, P, y3, y4, fun p hp => ?_⟩
        · rw [a2]
          unfold K_Md_read_133
          rw [y1, if_pos (Int32.le_refl _)] <;> rfl
        · unfold M_PF_read
          rw [if_pos k0, a1]
          show (if rd' 3 = 0 then (rd' 0, rd', ty', ct', pl', nu', rs', fs') else (-(rd' 3), rd', ty', ct', pl', nu', rs', fs')) = _
          rw [if_pos (x3.trans y1), x0]
        · obtain ⟨s1, f, c, s2, s3, s4, s5⟩ := y6 p hp
          have hr := y5.room
          have h8 := y5.2.2.1
          exact ⟨s1, f, c, s2, s3, s4, by omega, by omega, fun i hi => y5.2.2.2 (f + i) (by omega)⟩
      · refine ⟨-(md' 16), upd md' 14 0, ?_, ?_, fun k hk => pk_un (by omega), ⟨x0, y3, x3, x4, x5, x6, G2⟩, 0, y2.trans nI_zero, by omega, fun p hp => absurd hp (Nat.not_lt_zero p)⟩
        · rw [a2]
          unfold K_Md_read_133
          rw [if_neg y1.1] <;> rfl
        · unfold M_PF_read
          rw [if_pos k0, a1]
          show (if rd' 3 = 0 then (rd' 0, rd', ty', ct', pl', nu', rs', fs') else (-(rd' 3), rd', ty', ct', pl', nu', rs', fs')) = _
          rw [if_neg (fun t => y1.2 (x3.symm.trans t)), x3]
    obtain ⟨v, md'', o1, o2, o3, o4⟩ := out
    have e : M_Lw_read mk ro rd ty ct pl nu rs fs ou = (0, rd', ty', ct', pl', nu', rs', fs', vp_updL ou (0 : Int32).toNatClampNeg v.toInt64) := by
      unfold M_Lw_read
      rw [hT, if_pos rfl]
      (try dsimp only)
      rw [o2]
    rw [e, o1]
    refine ⟨?_, fun _ => out0 ou rfl, hro, hst, G1, hF, hM.sameM (fun k h1 h2 => ?_), o4⟩
    · show md'' 0 = 0
      rw [o3 0 (by omega), G3 0 (by omega)]
      rfl
    · show md'' k = md k
      rw [o3 k h2, G3 k h2]
      exact pk_un (by omega)
  · have k0 : ¬ mk 0 = 0 := by rw [m0]; exact c1
    have hT : T_PF_read mk = 2 := by unfold T_PF_read; rw [if_neg k0]
    have e : M_Lw_read mk ro rd ty ct pl nu rs fs ou = (1, rd, ty, ct, pl, nu, rs, fs, ou) := by
      unfold M_Lw_read
      rw [hT, if_neg n20]
    have e2 : M_Md_read md sz bf mn mf sp sl et = (0, upd md 0 1, mn, mf, sp, sl, et) := by
      unfold M_Md_read
      rw [if_neg c1]
    rw [e, e2]
    exact ⟨rfl, fun t => absurd t n10, hR⟩
theorem gr_Md_read : GR_read := by
  intro mk ro st rd nu rs fs md sz fr bf mp ml mn mf sp sl et hR
  obtain ⟨hro, hst, hrs, hF, hM, hRd⟩ := id hR
  obtain ⟨z, hz⟩ := FR.of hro hF
  by_cases c1 : md 1 = 0
  · exact (read_all hz hrs hRd c1 (fun _ => 0) (fun _ => 0) (fun _ => 0) et).2
  · unfold G_Md_read
    rw [if_neg c1]
    trivial
end PRI
theorem lw_hlt {l : Launch} (hfl : l.flags = flags0) : ∀ e, l.admits e → e.platform.stackTraces = false := by
  intro e ha
  rw [ha.platform]
  show l.stackTraces = false
  unfold Launch.stackTraces
  rw [hfl]
  decide
theorem arr_K {s : State} {A : Array Value} {ty : FieldType} (h : (Cond.arrayClass ty).before A s = true) (hp : refKind ty = false) : ∃ cA, ArrOfT s cA ty ∧ va_RA s cA ty := by
  obtain ⟨cA, kA, comp, h1, h2, h3⟩ := Cond.arrayClass_spec h
  refine ⟨cA, fun n z => ⟨fun k h => (by cases h), kA, h2, comp, h3⟩, ?_⟩
  cases ty <;> first | (simp [refKind] at hp; done) | exact h1
theorem str_R {s : State} {A : Array Value} {own tx : String} {k n : Nat} (hi : (Cond.instantiable own n).before A s = true) (h : (Cond.stringRef own k tx).before A s = true) : ∃ q, vk_R own k tx q s := by
  obtain ⟨cC, kC, hfc, hk, hkind, -⟩ := Cond.instantiable_spec hi
  obtain ⟨k0, cf, i, a, -, -, -, -, -, he⟩ := Cond.stringRef_spec hfc h
  exact ⟨a, vk_R.of h he⟩
set_option maxHeartbeats 4000000 in
set_option maxRecDepth 100000 in
theorem whole_start {p : Program} {e : Env} {s : State} {m : MethodId} {below : List Frame} {meth : Method} {c : Code} (l : Launch) (hlt : ∀ e, l.admits e → e.platform.stackTraces = false) {b L : Nat} {xs : Nat → Int32} (hL : L ≤ 3072) (C0 : lw_At p s m meth c b L xs) : W p l e room_1 s m #[Value.ref b] below meth c s.heap [] 0 0 (lw_Z below #[Value.ref b] s) (entryFrame m ([Value.ref b] : List Value).toArray 8) := by
  obtain ⟨hx, hb, hr, hml, hown, hts, hX, hbl, hlocks, hgv⟩ := id C0
  have hW : Wd BW s := fun w h => wk_of (bw_ok w h) (hts w (bw_tbl w h))
  have hw : ∀ {w : Cond}, w ∈ BW → w.before #[Value.ref b] s = true := fun h => Wd.at bw_ok hW h
  obtain ⟨c0, i0, hKn0⟩ := u_known (C := R_Row) (T := F_Row) (N := 2) (n := 2) hts (fun w h => bw_tbl w (in_Row w h)) (hts (.instantiable R_Row 2) (by decide +kernel))
  obtain ⟨c1, i1, hKn1⟩ := u_known (C := R_St) (T := F_St) (N := 3) (n := 3) hts (fun w h => bw_tbl w (in_St w h)) (hts (.instantiable R_St 3) (by decide +kernel))
  obtain ⟨c2, i2, hKn2⟩ := u_known (C := R_Mk) (T := F_Mk) (N := 14) (n := 14) hts (fun w h => bw_tbl w (in_Mk w h)) (hts (.instantiable R_Mk 14) (by decide +kernel))
  obtain ⟨c3, i3, hKn3⟩ := u_known (C := R_Pn) (T := F_Pn) (N := 1) (n := 1) hts (fun w h => bw_tbl w (in_Pn w h)) (hts (.instantiable R_Pn 1) (by decide +kernel))
  obtain ⟨c4, i4, hKn4⟩ := u_known (C := R_En) (T := F_En) (N := 4) (n := 4) hts (fun w h => bw_tbl w (in_En w h)) (hts (.instantiable R_En 4) (by decide +kernel))
  obtain ⟨c5, i5, hKn5⟩ := u_known (C := R_Rd) (T := F_Rd) (N := 12) (n := 12) hts (fun w h => bw_tbl w (in_Rd w h)) (hts (.instantiable R_Rd 12) (by decide +kernel))
  obtain ⟨c6, i6, hKn6⟩ := u_known (C := R_PF) (T := F_PF) (N := 3) (n := 3) hts (fun w h => bw_tbl w (in_PF w h)) (hts (.instantiable R_PF 3) (by decide +kernel))
  obtain ⟨c7, i7, hKn7⟩ := u_known (C := R_Md) (T := F_Md) (N := 30) (n := 30) hts (fun w h => bw_tbl w (in_Md w h)) (hts (.instantiable R_Md 30) (by decide +kernel))
  obtain ⟨dC, dI, hKc⟩ : ∃ (dC : Nat → ClassId) (dI : Nat → Nat → Nat), ∀ (k : Nat) (q : vw_C), classes[k]? = some q → u_Kn s q.1 q.2.1 q.2.2 (dC k) (dI k) := by
    refine ⟨fun k => match k with | 0 => c0 | 1 => c1 | 2 => c2 | 3 => c3 | 4 => c4 | 5 => c5 | 6 => c6 | _ => c7, fun k => match k with | 0 => i0 | 1 => i1 | 2 => i2 | 3 => i3 | 4 => i4 | 5 => i5 | 6 => i6 | _ => i7, ?_⟩
    intro k q hq
    match k, hq with
    | 0, hq => cases hq; exact hKn0
    | 1, hq => cases hq; exact hKn1
    | 2, hq => cases hq; exact hKn2
    | 3, hq => cases hq; exact hKn3
    | 4, hq => cases hq; exact hKn4
    | 5, hq => cases hq; exact hKn5
    | 6, hq => cases hq; exact hKn6
    | 7, hq => cases hq; exact hKn7
    | k + 8, hq => simp [classes] at hq
  obtain ⟨cB, aB⟩ := arr_K (hw kw_439) rfl
  obtain ⟨cI, aI⟩ := arr_K (hw kw_441) rfl
  obtain ⟨cJ, aJ⟩ := arr_K (hw kw_449) rfl
  have hK : KS classes BW (dC, dI) (TY cB cI cJ) s := by
    refine ⟨⟨hKc, fun k q h => ?_⟩, hW⟩
    match k, h with
    | 0, h => cases h; exact aB
    | 1, h => cases h; exact aI
    | 2, h => cases h; exact aJ
    | k + 3, h => simp [TY] at h
  have hSX : SX TS s := by
    have hs := flat_of_before _ hgv
    refine ⟨fun w hw => ?_, fun x hx => ?_⟩
    · simp only [XW, List.mem_cons, List.not_mem_nil, or_false] at hw
      rcases hw with rfl | rfl | rfl | rfl | rfl
      · exact hs (.isRef (.static Bundle.tN "UNASSIGNED_STACK" Bundle.steD)) (by decide +kernel)
      · exact hs (.isRef (.static Bundle.tN "SUPPRESSED_SENTINEL" Bundle.listD)) (by decide +kernel)
      · exact hts (.laysStatic Bundle.tN "UNASSIGNED_STACK" Bundle.steD) (by decide +kernel)
      · exact hts (.laysStatic Bundle.tN "SUPPRESSED_SENTINEL" Bundle.listD) (by decide +kernel)
      · exact hs (.not (.castable "java/lang/IllegalArgumentException" "java/lang/IllegalStateException")) (by decide +kernel)
    · have hi : (Cond.instantiable "PictureFile" 3).before #[Value.ref b] s = true := hts _ (by decide +kernel)
      simp only [TS, List.mem_cons, List.not_mem_nil, or_false] at hx
      rcases hx with rfl | rfl | rfl | rfl | rfl | rfl | rfl | rfl | rfl | rfl | rfl
      · exact str_R hi (hts (.stringRef "PictureFile" 64 "the order is not 73 or 77") (by decide +kernel))
      · exact str_R hi (hts (.stringRef "PictureFile" 91 "there can be no such page") (by decide +kernel))
      · exact str_R hi (hts (.stringRef "PictureFile" 81 "no page can be begun now") (by decide +kernel))
      · exact str_R hi (hts (.stringRef "PictureFile" 108 "no strip is being made") (by decide +kernel))
      · exact str_R hi (hts (.stringRef "PictureFile" 116 "no page can be closed now") (by decide +kernel))
      · exact str_R hi (hts (.stringRef "PictureFile" 121 "no file can be ended now") (by decide +kernel))
      · exact str_R hi (hts (.stringRef "PictureFile" 123 "a file is being made") (by decide +kernel))
      · exact str_R hi (hts (.stringRef "PictureFile" 143 "no such page or number") (by decide +kernel))
      · exact str_R hi (hts (.stringRef "PictureFile" 160 "no such strip or number") (by decide +kernel))
      · exact str_R hi (hts (.stringRef "PictureFile" 166 "no such byte of a strip") (by decide +kernel))
      · exact str_R hi (hts (.stringRef "PictureFile" 168 "the file has no such byte any more") (by decide +kernel))
  have hl := lv_entry ([.ref b]) (n := 8) (Nat.le_of_ble_eq_true rfl)
  rw [lg_entry_eq]
  exact law_start (A := fun q : Nat => s.heap.size ≤ q) (D := (dC, dI)) hlt hx hb hml hown hK hSX hX hbl (fun _ h => h) (fun _ h => h) hL hr hlocks ag_give gr_Md_give ag_poke gr_Md_poke ag_cut ag_bytes gr_Md_bytes ag_begin gr_Md_begin ag_page gr_Md_page ag_put gr_Md_put ag_strip gr_Md_strip ag_close gr_Md_close ag_end ag_read gr_Md_read ag_fault ag_of gr_Md_of ag_where gr_Md_where ag_dots gr_Md_dots ag_look ⟨fun i j p q h => by simp at h, fun k q h => by simp at h⟩ (fun k q h => by simp at h) va_S.rf hl
set_option maxHeartbeats 4000000 in
theorem lw_walk (l : Launch) (hlt : ∀ e, l.admits e → e.platform.stackTraces = false) (b : Addr) (xs : List Int32) : MetFree l x (headSpec (Jvm.Cond.code x code maxLocals ret :: tables_1) room_1) (lw_P b xs) (fun _ _ _ _ _ => True) lw_Q := by
  refine MetFree.of_bodyS (code := code) (maxLocals := maxLocals) (ret := ret) (by decide) ?_ ?_
  · intro args s m h hn
    obtain ⟨meth, c, h1, h2, h3, h4, h5, h6, -, -⟩ := Cond.code_spec hn (atoms_spec (ws := Jvm.Cond.code x code maxLocals ret :: tables_1) h _ List.mem_cons_self)
    exact ⟨meth, c, h1, h2, h3, h4, h5, h6⟩
  · intro p e s m args below meth c s₁ B hml0 hP _
    obtain ⟨rfl, hx, hbd, hgv⟩ := hP
    obtain ⟨scr, harrAt, hlist, hof, hsmall⟩ := hx
    obtain ⟨hcb, hkn, -, -⟩ := State.arrayAt?_spec harrAt
    have hown : s.vm.findClass R_law = some m.cls := findClass_of_methodNamed B.named
    have hts0 : ∀ c ∈ (Jvm.Cond.code x code maxLocals ret :: tables_1), c.before #[Value.ref b] s = true := atoms_spec (ws := Jvm.Cond.code x code maxLocals ret :: tables_1) B.pre
    have hts : ∀ w ∈ lw_tbl, w.before #[Value.ref b] s = true := k2_hts_sels lw_privs (fun w hw => hts0 w (List.mem_cons_of_mem _ hw)) lw_privs_ok
    have hml : c.maxLocals = 8 := B.maxLocals_eq (hts0 _ List.mem_cons_self)
    have X₀ : Stand p l e room_1 s m #[Value.ref b] below meth c s₁ [] 0 0 := Stand.of_body B
    have hh0 : s₁.heap = s.heap := by rw [B.state]; rfl
    have hsz : scr.slots.size = xs.length := by rw [← Array.length_toList, hlist, List.length_map]
    have hval : ∀ j : Nat, j < xs.length → scr.slots[j]? = some (.int (xs.getD j 0)) := fun j hj => by
      rw [← Array.getElem?_toList, hlist]
      simp [hj]
    have hbl : b < s.heap.size := (Array.getElem?_eq_some_iff.mp hcb).1
    have hX : va_X b xs.length (fun j => xs.getD j 0) s s.heap := ⟨scr, hcb, hof, hkn, hsz, hval⟩
    have K : W p l e room_1 s m #[Value.ref b] below meth c s₁.heap [] 0 0 (lw_Z below #[Value.ref b] s) (entryFrame m ([Value.ref b] : List Value).toArray 8) := by
      rw [hh0]
      exact whole_start l hlt hbd ⟨B.exec, B.bytes, B.returns, hml, hown, hts, hX, hbl, B.notSynchronized, hgv⟩
    obtain ⟨t, a1, o, b1, b2, b3⟩ := K s₁ rfl X₀
    exact ⟨t, o, a1, b1, b2, b3⟩
theorem lw_pre_spec {args : Array Value} {s : State} (h : (Jvm.Cond.and given_1 narrow_1).before args s = true) (hr : rest_1_c.before args s = true) : ∃ (b : Addr) (xs : List Int32), lw_P b xs args s := by
  have hs := flat_of_before _ h
  have hq := flat_of_before _ hr
  have hc : (Cond.count 1).before args s = true := hs _ (by decide +kernel)
  have harr : (Cond.arrayOf (.arg 0) .int).before args s = true := hs _ (by decide +kernel)
  have hle : (Cond.le (.length (.arg 0)) (.int 3072)).before args s = true := hs _ (by decide +kernel)
  have hlen : (Cond.isInt (.length (.arg 0))).before args s = true := hq _ (by decide +kernel)
  have hall : (Cond.all (.arg 0) (.isInt (.elem (.arg 0) (.index 0)))).before args s = true := hq _ (by decide +kernel)
  obtain ⟨b, xs, hb, hx⟩ := State.ints_of_pre rfl harr hlen hall
  have hsm : xs.length < 2 ^ 31 := hx.choose_spec.2.2.2
  have hev : (Term.length (.arg 0)).eval args s none [] s = some (.int xs.length.toInt32) := hx.length_eval hb
  have hv := Cond.le_ints hev (show (Term.int 3072).eval args s none [] s = some (.int 3072) from rfl)
  have hd : xs.length.toInt32 ≤ 3072 := by
    simpa [Cond.before, Cond.holds, hv] using hle
  have hN : xs.length ≤ 3072 := (Int32.ofNat_le_ofNat hsm (by decide)).mp (show Int32.ofNat xs.length ≤ Int32.ofNat 3072 from hd)
  exact ⟨b, xs, Cond.one_arg hc (show args[0]? = some (.ref b) from hb), hx, hN, h⟩
theorem lw_comes (l : Launch) (hlt : ∀ e, l.admits e → e.platform.stackTraces = false) : Comes l x (Jvm.Cond.code x code maxLocals ret :: tables_1) room_1 (fun tb e args s => Calls_1 tb e args s ∧ rest_1 tb e args s ∧ Pre_1 tb e args s)
    (fun _ _ args s o t => lw_Q args s o t) := by
  intro p e ha hc hk s m args below hf hfit hheap happ hpre
  obtain ⟨b, xs, hP⟩ := lw_pre_spec hpre.2.2 hpre.2.1
  obtain ⟨k, o, h1, h2, h3, hQ⟩ := lw_walk l hlt b xs p e ha hc hk s m args below hf ((Spec.applies_iff_loose hf).mp happ).1 hP trivial
  exact ⟨k, o, h1, h2, h3, hQ⟩
theorem lw_frame {s t : State} {o : Outcome} {args : Array Value} (h : Framed s o t [] 601024 7293034) :
    Framed s o t (fieldLocs frame_1_writes args s ++ arrayLocs frame_1_arrays args s ++ staticLocs frame_1_statics s) 601024 7293034 := h
theorem lw_limb (L : Cond) (hL : ∀ (args : Array Value) (s t : State), L.after args s (.returned (some (.int 1))) t = true) :
    ArmFor flags0 classFile x code maxLocals ret World_1 tables_1 room_1 Calls_1 rest_1 Pre_1
      (fun tb e a s o t => postC L tb e a s o t ∧ Framed s o t (fieldLocs frame_1_writes a s ++ arrayLocs frame_1_arrays a s ++ staticLocs frame_1_statics s) 601024 7293034) := by
  intro l hfl _ _ p e ha hc hk s m args below hf hfit hheap happ hpre
  obtain ⟨k, o, h1, h2, h3, rfl, hF⟩ := lw_comes l (lw_hlt hfl) p e ha hc hk s m args below hf hfit hheap happ hpre
  exact ⟨k, _, h1, h2, h3, hL args s _, lw_frame hF⟩
theorem i_vc : Claimed_1_1 ∧ Claimed_1_2 := ⟨lw_limb limb_1_1 (fun args s t => by simp [limb_1_1, Cond.after, Cond.holds, Cond.value]), lw_limb limb_1_2 (fun args s t => Cond.after_iff.mpr (by
  first | (rw [show limb_1_2 = Cond.eq .result (.int 1) from rfl, Cond.eq_ints (x := 1) (y := 1) rfl rfl]; simp; done) | (simp [limb_1_2, Cond.value, Term.eval]; done)))⟩
