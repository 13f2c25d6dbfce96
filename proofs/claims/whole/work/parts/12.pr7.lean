section PR7
theorem FR.congr {ro : RowS} {sz : Int32} {bf bf' : Nat → Int32} {z : Nat} (h : FR ro sz bf z) (e : ∀ j, j < z → bf' j = bf j) : FR ro sz bf' z :=
  ⟨h.1, h.2.1, h.2.2.1, h.2.2.2.1, fun j hj => (e j hj).trans (h.2.2.2.2 j hj)⟩
/-- alike but at four places -/
def Off (L : Nat) (f g : Nat → Int32) : Prop := ∀ j, j < L ∨ L + 4 ≤ j → f j = g j
theorem off_one {L : Nat} {f g : Nat → Int32} (h : Off L f g) (sz v : Int32) : (M_Md_one sz f v).1 = (M_Md_one sz g v).1 ∧ Off L (M_Md_one sz f v).2 (M_Md_one sz g v).2 := by
  refine ⟨rfl, fun j hj => ?_⟩
  show upd f _ _ j = upd g _ _ j
  unfold upd
  by_cases e : j = sz.toNatClampNeg
  · rw [if_pos e, if_pos e]
  · rw [if_neg e, if_neg e]
    exact h j hj
theorem off_two {L : Nat} {f g : Nat → Int32} (h : Off L f g) (md : Nat → Int32) (sz v : Int32) : (M_Md_two md sz f v).1 = (M_Md_two md sz g v).1 ∧ Off L (M_Md_two md sz f v).2 (M_Md_two md sz g v).2 := by
  by_cases ho : md 3 = 77
  · rw [two_be ho, two_be ho]
    obtain ⟨a1, a2⟩ := off_one h sz (v >>> ((8 : Int32) &&& 31))
    rw [a1]
    exact off_one a2 _ v
  · rw [two_le ho, two_le ho]
    obtain ⟨a1, a2⟩ := off_one h sz v
    rw [a1]
    exact off_one a2 _ _
theorem four_be {md : Nat → Int32} (ho : md 3 = 77) (sz : Int32) (bf : Nat → Int32) (v : Int32) : M_Md_four md sz bf v = M_Md_two md (M_Md_two md sz bf (v >>> ((16 : Int32) &&& 31))).1 (M_Md_two md sz bf (v >>> ((16 : Int32) &&& 31))).2 v := by
  unfold M_Md_four
  rw [if_pos ho]
theorem four_le {md : Nat → Int32} (ho : ¬ md 3 = 77) (sz : Int32) (bf : Nat → Int32) (v : Int32) : M_Md_four md sz bf v = M_Md_two md (M_Md_two md sz bf v).1 (M_Md_two md sz bf v).2 (v >>> ((16 : Int32) &&& 31)) := by
  unfold M_Md_four
  rw [if_neg ho]
theorem off_four {L : Nat} {f g : Nat → Int32} (h : Off L f g) (md : Nat → Int32) (sz v : Int32) : (M_Md_four md sz f v).1 = (M_Md_four md sz g v).1 ∧ Off L (M_Md_four md sz f v).2 (M_Md_four md sz g v).2 := by
  by_cases ho : md 3 = 77
  · rw [four_be ho, four_be ho]
    obtain ⟨a1, a2⟩ := off_two h md sz (v >>> ((16 : Int32) &&& 31))
    rw [a1]
    exact off_two a2 md _ v
  · rw [four_le ho, four_le ho]
    obtain ⟨a1, a2⟩ := off_two h md sz v
    rw [a1]
    exact off_two a2 md _ _
-- what lies below stays
theorem keep_one {z j : Nat} (hz : z ≤ 65536) (hj : j < z) (bf : Nat → Int32) (v : Int32) : (M_Md_one (nI z) bf v).2 j = bf j := by
  rw [one_val rfl hz]
  exact pk_un (by omega)
theorem keep_two {z j : Nat} (hz : z + 2 ≤ 65536) (hj : j < z) (md bf : Nat → Int32) (v : Int32) : (M_Md_two md (nI z) bf v).2 j = bf j := by
  have e : ∀ w, (M_Md_one (nI z) bf w).1 = nI (z + 1) := fun w => by rw [one_val rfl (by omega)]
  by_cases ho : md 3 = 77
  · rw [two_be ho, e, keep_one (by omega) (by omega), keep_one (by omega) hj]
  · rw [two_le ho, e, keep_one (by omega) (by omega), keep_one (by omega) hj]
theorem keep_four {z j : Nat} (hz : z + 4 ≤ 65536) (hj : j < z) (md bf : Nat → Int32) (v : Int32) : (M_Md_four md (nI z) bf v).2 j = bf j := by
  have e : ∀ w, (M_Md_two md (nI z) bf w).1 = nI (z + 2) := fun w => two_sz rfl (by omega) _ _
  by_cases ho : md 3 = 77
  · rw [four_be ho, e, keep_two (by omega) (by omega), keep_two (by omega) hj]
  · rw [four_le ho, e, keep_two (by omega) (by omega), keep_two (by omega) hj]
theorem four_sz {md : Nat → Int32} {sz : Int32} {z : Nat} (h : sz = nI z) (hz : z + 4 ≤ 65536) (bf : Nat → Int32) (v : Int32) : (M_Md_four md sz bf v).1 = nI (z + 4) := by
  by_cases ho : md 3 = 77
  · rw [four_be ho, two_sz (z := z + 2) (two_sz h (by omega) _ _) (by omega)]
  · rw [four_le ho, two_sz (z := z + 2) (two_sz h (by omega) _ _) (by omega)]
/-- one step of the reference's making: on the true file and on the one whose link isn't written yet -/
def StpM (L z : Nat) (ro : RowS) (s1 s0 : Int32 × (Nat → Int32)) (bf1 : Nat → Int32) (z0 : Nat) : Prop :=
  FR ro s0.1 s0.2 z ∧ s1.1 = s0.1 ∧ Off L s1.2 s0.2 ∧ (∀ j, j < z0 → s1.2 j = bf1 j) ∧ z0 ≤ z
theorem StpM.two {L z z0 : Nat} {ro : RowS} {s1 s0 : Int32 × (Nat → Int32)} {bf1 : Nat → Int32} (h : StpM L z ro s1 s0 bf1 z0) (hz : z + 2 ≤ 65536) (md : Nat → Int32) (v : Int32) :
    StpM L (z + 2) (M_Row_append ro v.toInt64 2 (md 3)) (M_Md_two md s1.1 s1.2 v) (M_Md_two md s0.1 s0.2 v) bf1 z0 ∧ G_Md_two md s1.1 s1.2 v := by
  obtain ⟨h1, h2, h3, h4, h5⟩ := h
  have e0 : s0.1 = nI z := h1.2.2.2.1
  obtain ⟨a1, a2⟩ := off_two h3 md s0.1 v
  rw [h2]
  refine ⟨⟨(h1.two hz md v).1, a1, a2, fun j hj => ?_, by omega⟩, g_two e0 hz _ _⟩
  rw [e0, keep_two hz (by omega)]
  exact h4 j hj
theorem StpM.four {L z z0 : Nat} {ro : RowS} {s1 s0 : Int32 × (Nat → Int32)} {bf1 : Nat → Int32} (h : StpM L z ro s1 s0 bf1 z0) (hz : z + 4 ≤ 65536) (md : Nat → Int32) (v : Int32) :
    StpM L (z + 4) (M_Row_append ro v.toInt64 4 (md 3)) (M_Md_four md s1.1 s1.2 v) (M_Md_four md s0.1 s0.2 v) bf1 z0 ∧ G_Md_four md s1.1 s1.2 v := by
  obtain ⟨h1, h2, h3, h4, h5⟩ := h
  have e0 : s0.1 = nI z := h1.2.2.2.1
  obtain ⟨a1, a2⟩ := off_four h3 md s0.1 v
  rw [h2]
  refine ⟨⟨(h1.four hz md v).1, a1, a2, fun j hj => ?_, by omega⟩, g_four e0 hz _ _⟩
  rw [e0, keep_four hz (by omega)]
  exact h4 j hj
theorem entry3_val (md : Nat → Int32) (sz : Int32) (bf : Nat → Int32) (a c d : Int32) : ∀ x1, x1 = M_Md_two md sz bf a → ∀ x2, x2 = M_Md_two md x1.1 x1.2 3 → ∀ x3, x3 = M_Md_four md x2.1 x2.2 c → ∀ x5, x5 = M_Md_two md x3.1 x3.2 d → M_Md_entryOf md sz bf a 3 c d = M_Md_two md x5.1 x5.2 0 := by
  intro x1 h1 x2 h2 x3 h3 x5 h5
  unfold M_Md_entryOf
  (try dsimp only)
  rw [if_pos rfl, ← h1, ← h2, ← h3, ← h5]
theorem entryL_val (md : Nat → Int32) (sz : Int32) (bf : Nat → Int32) {b : Int32} (hb : ¬ b = 3) (a c d : Int32) : ∀ x1, x1 = M_Md_two md sz bf a → ∀ x2, x2 = M_Md_two md x1.1 x1.2 b → ∀ x3, x3 = M_Md_four md x2.1 x2.2 c → M_Md_entryOf md sz bf a b c d = M_Md_four md x3.1 x3.2 d := by
  intro x1 h1 x2 h2 x3 h3
  unfold M_Md_entryOf
  (try dsimp only)
  rw [if_neg hb, ← h1, ← h2, ← h3]
theorem addEntry3 (mk : Nat → Int32) (ro : RowS) (a c d : Int32) : M_Mk_addEntry mk ro a 3 c d = M_Row_append (M_Row_append (M_Row_append (M_Row_append (M_Row_append ro a.toInt64 2 (mk 2)) (3 : Int32).toInt64 2 (mk 2)) c.toInt64 4 (mk 2)) d.toInt64 2 (mk 2)) (0 : Int32).toInt64 2 (mk 2) := by
  unfold M_Mk_addEntry M_Mk_addShort M_Mk_addLong
  dsimp only
  rw [if_pos rfl]
theorem addEntryL (mk : Nat → Int32) (ro : RowS) {b : Int32} (hb : ¬ b = 3) (a c d : Int32) : M_Mk_addEntry mk ro a b c d = M_Row_append (M_Row_append (M_Row_append (M_Row_append ro a.toInt64 2 (mk 2)) b.toInt64 2 (mk 2)) c.toInt64 4 (mk 2)) d.toInt64 4 (mk 2) := by
  unfold M_Mk_addEntry M_Mk_addShort M_Mk_addLong
  dsimp only
  rw [if_neg hb]
theorem StpM.entry {L z z0 : Nat} {ro : RowS} {s1 s0 : Int32 × (Nat → Int32)} {bf1 : Nat → Int32} (h : StpM L z ro s1 s0 bf1 z0) (hz : z + 12 ≤ 65536) {mk md : Nat → Int32} (hm : mk 2 = md 3) (a b c d : Int32) :
    StpM L (z + 12) (M_Mk_addEntry mk ro a b c d) (M_Md_entryOf md s1.1 s1.2 a b c d) (M_Md_entryOf md s0.1 s0.2 a b c d) bf1 z0 ∧ G_Md_entryOf md s1.1 s1.2 a b c d := by
  obtain ⟨a1, g1⟩ := h.two (by omega) md a
  obtain ⟨a2, g2⟩ := a1.two (by omega) md b
  obtain ⟨a3, g3⟩ := a2.four (by omega) md c
  by_cases hb : b = 3
  · subst hb
    obtain ⟨a4, g4⟩ := a3.two (by omega) md d
    obtain ⟨a5, g5⟩ := a4.two (by omega) md 0
    refine ⟨?_, ?_⟩
    · rw [addEntry3, hm, entry3_val md s1.1 s1.2 a c d _ rfl _ rfl _ rfl _ rfl, entry3_val md s0.1 s0.2 a c d _ rfl _ rfl _ rfl _ rfl]
      exact a5
    · unfold G_Md_entryOf
      refine ⟨g1, fun x1 h1 => ?_⟩
      rw [h1]
      refine ⟨g2, fun x2 h2 => ?_⟩
      rw [h2]
      refine ⟨g3, fun x3 h3 => ?_⟩
      rw [h3, if_pos rfl]
      refine ⟨g4, fun x5 h5 => ?_⟩
      rw [h5]
      exact g5
  · obtain ⟨a4, g4⟩ := a3.four (by omega) md d
    refine ⟨?_, ?_⟩
    · rw [addEntryL mk ro hb, hm, entryL_val md s1.1 s1.2 hb a c d _ rfl _ rfl _ rfl, entryL_val md s0.1 s0.2 hb a c d _ rfl _ rfl _ rfl]
      exact a4
    · unfold G_Md_entryOf
      refine ⟨g1, fun x1 h1 => ?_⟩
      rw [h1]
      refine ⟨g2, fun x2 h2 => ?_⟩
      rw [h2]
      refine ⟨g3, fun x3 h3 => ?_⟩
      rw [h3, if_neg hb]
      exact g4
-- the link
theorem rl_go {p0 : Nat} {p1 : Int64} {i f : Nat} {o : Int32} {ro : RowS} (h : i < 4) : L_Row_replaceLong (nI p0) p1 o (f + 1) (nI i) ro = L_Row_replaceLong (nI p0) p1 o f (nI (i + 1)) (M_Row_replace ro (nI (p0 + i)) ((p1 >>> ((M_Row_shiftOf (nI i) (nI 4) o).toInt64 &&& 63)).toInt32)) := by
  have c : ¬ (4 : Int32) ≤ nI i := nI_ge (b := 4) h (by omega)
  rw [L_Row_replaceLong, if_neg c, nI_1, nI_add]
  rfl
theorem rl_end {p0 : Nat} {p1 : Int64} {f : Nat} {o : Int32} {ro : RowS} : L_Row_replaceLong (nI p0) p1 o (f + 1) (nI 4) ro = ro := by
  have c : (4 : Int32) ≤ nI 4 := by decide
  rw [L_Row_replaceLong, if_pos c]
theorem rl_be (ro : RowS) (L : Nat) (p : Int64) : M_Row_replaceLong ro (nI L) p 77 = M_Row_replace (M_Row_replace (M_Row_replace (M_Row_replace ro (nI (L + 0)) ((p >>> ((nI 24).toInt64 &&& 63)).toInt32)) (nI (L + 1)) ((p >>> ((nI 16).toInt64 &&& 63)).toInt32)) (nI (L + 2)) ((p >>> ((nI 8).toInt64 &&& 63)).toInt32)) (nI (L + 3)) ((p >>> ((nI 0).toInt64 &&& 63)).toInt32) := by
  have e : M_Row_replaceLong ro (nI L) p 77 = L_Row_replaceLong (nI L) p 77 (0 + 1 + 1 + 1 + 1 + 1) (nI 0) ro := rfl
  rw [e, rl_go (by omega), rl_go (by omega), rl_go (by omega), rl_go (by omega), sh_be (by omega), sh_be (by omega), sh_be (by omega), sh_be (by omega)]
  exact rl_end
theorem rl_le (ro : RowS) (L : Nat) (p : Int64) {o : Int32} (ho : ¬ o = 77) : M_Row_replaceLong ro (nI L) p o = M_Row_replace (M_Row_replace (M_Row_replace (M_Row_replace ro (nI (L + 0)) ((p >>> ((nI 0).toInt64 &&& 63)).toInt32)) (nI (L + 1)) ((p >>> ((nI 8).toInt64 &&& 63)).toInt32)) (nI (L + 2)) ((p >>> ((nI 16).toInt64 &&& 63)).toInt32)) (nI (L + 3)) ((p >>> ((nI 24).toInt64 &&& 63)).toInt32) := by
  have e : M_Row_replaceLong ro (nI L) p o = L_Row_replaceLong (nI L) p o (0 + 1 + 1 + 1 + 1 + 1) (nI 0) ro := rfl
  rw [e, rl_go (by omega), rl_go (by omega), rl_go (by omega), rl_go (by omega), sh_le ho, sh_le ho, sh_le ho, sh_le ho]
  exact rl_end
theorem upd4 {f g : Nat → Int32} {L j : Nat} {a b c d : Int32} (h : L ≤ j) (h2 : j < L + 4) : upd (upd (upd (upd f L a) (L + 1) b) (L + 2) c) (L + 3) d j = upd (upd (upd (upd g L a) (L + 1) b) (L + 2) c) (L + 3) d j := by
  by_cases e3 : j = L + 3
  · rw [e3, pk_us, pk_us]
  rw [pk_un e3, pk_un e3]
  by_cases e2 : j = L + 2
  · rw [e2, pk_us, pk_us]
  rw [pk_un e2, pk_un e2]
  by_cases e1 : j = L + 1
  · rw [e1, pk_us, pk_us]
  rw [pk_un e1, pk_un e1]
  have e0 : j = L := by omega
  rw [e0, pk_us, pk_us]
/-- the link is written: by the class behind, by the reference ahead -/
theorem link_end {L z z0 : Nat} {ro : RowS} {s1 s0 : Int32 × (Nat → Int32)} {bf0 : Nat → Int32} (md : Nat → Int32) (v : Int32) (hL : L + 4 ≤ z0) (h : StpM L z ro s1 s0 (M_Md_fourAt md bf0 (nI L) v) z0) : FR (M_Row_replaceLong ro (nI L) v.toInt64 (md 3)) s1.1 s1.2 z := by
  obtain ⟨h1, h2, h3, h4, h5⟩ := h
  have hz := h1.2.1
  have e : M_Md_fourAt md bf0 (nI L) v = (M_Md_four md (nI L) bf0 v).2 := rfl
  rw [h2]
  have near : ∀ j, L ≤ j → j < L + 4 → s1.2 j = (M_Md_four md (nI L) bf0 v).2 j := fun j a b => (h4 j (by omega)).trans (by rw [e])
  have o1 : ∀ {k : Nat} (f : Nat → Int32) (w : Int32), k ≤ 65536 → M_Md_one (nI k) f w = (nI (k + 1), upd f k (vp_nar .byte w.toInt8.toInt32)) := fun f w hk => one_val rfl hk w
  by_cases ho : md 3 = 77
  · have f1 := h1.rep (k := L + 0) (by omega) (shr_24 v)
    have f2 := f1.rep (k := L + 1) (by omega) (shr_eq v (k := 16) (by omega))
    have f3 := f2.rep (k := L + 2) (by omega) (shr_eq v (k := 8) (by omega))
    have f4 := f3.rep (k := L + 3) (by omega) (shr_0 v)
    rw [ho, rl_be]
    refine f4.congr (fun j hj => ?_)
    rw [four_be ho, two_be ho, two_be ho, o1 _ _ (by omega), o1 _ _ (by omega), o1 _ _ (by omega), o1 _ _ (by omega)] at near
    by_cases c : L ≤ j ∧ j < L + 4
    · exact (near j c.1 c.2).trans (upd4 c.1 c.2)
    · rw [pk_un (show ¬ j = L + 3 by omega), pk_un (show ¬ j = L + 2 by omega), pk_un (show ¬ j = L + 1 by omega), pk_un (show ¬ j = L + 0 by omega)]
      exact h3 j (by omega)
  · have f1 := h1.rep (k := L + 0) (by omega) (shr_0 v)
    have f2 := f1.rep (k := L + 1) (by omega) (shr_eq v (k := 8) (by omega))
    have f3 := f2.rep (k := L + 2) (by omega) (shr_eq v (k := 16) (by omega))
    have f4 := f3.rep (k := L + 3) (by omega) (shr_24 v)
    rw [rl_le _ _ _ ho]
    refine f4.congr (fun j hj => ?_)
    rw [four_le ho, two_le ho, two_le ho, o1 _ _ (by omega), o1 _ _ (by omega), o1 _ _ (by omega), o1 _ _ (by omega)] at near
    by_cases c : L ≤ j ∧ j < L + 4
    · exact (near j c.1 c.2).trans (upd4 c.1 c.2)
    · rw [pk_un (show ¬ j = L + 3 by omega), pk_un (show ¬ j = L + 2 by omega), pk_un (show ¬ j = L + 1 by omega), pk_un (show ¬ j = L + 0 by omega)]
      exact h3 j (by omega)
end PR7
