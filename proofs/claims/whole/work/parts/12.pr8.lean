section PR8
/-- the end of the reference's close() -/
def EndM (L z : Nat) (ro : RowS) (md : Nat → Int32) (K : Int32 × (Nat → Int32) × Int32 × (Nat → Int32)) (bf1 : Nat → Int32) (z0 zl : Nat) : Prop :=
  ∃ e1 e0 : Int32 × (Nat → Int32), K = (e1.1, upd (upd (upd md 2 0) 4 (md 4 + 1)) 5 (nI zl), e1.1, e1.2) ∧ StpM L z ro e1 e0 bf1 z0
section K
variable {L z z0 : Nat} {ro : RowS} {s1 s0 : Int32 × (Nat → Int32)} {bf1 mk md mp ml : Nat → Int32} {v1 v3 : Int32}
theorem StpM.sz (h : StpM L z ro s1 s0 bf1 z0) : s1.1 = nI z := h.2.1.trans h.1.2.2.2.1
theorem k391 (h : StpM L z ro s1 s0 bf1 z0) (hz : z + 4 ≤ 65536) (hm : mk 2 = md 3) : EndM L (z + 4) (M_Mk_addLong mk ro 0) md (K_Md_close_391 v1 v3 md s1.1 s1.2) bf1 z0 z ∧ GK_Md_close_391 v1 v3 md s1.1 s1.2 := by
  obtain ⟨a, g⟩ := h.four hz (upd md 5 s1.1) 0
  have e3 : (upd md 5 s1.1) 3 = mk 2 := by rw [hm]; rfl
  refine ⟨⟨M_Md_four (upd md 5 s1.1) s1.1 s1.2 0, M_Md_four (upd md 5 s1.1) s0.1 s0.2 0, ?_, ?_⟩, g⟩
  · unfold K_Md_close_391
    rw [← h.sz]
  · have e : M_Mk_addLong mk ro 0 = M_Row_append ro (0 : Int32).toInt64 4 (mk 2) := rfl
    rw [e, ← e3]
    exact a
theorem k358 (h : StpM L z ro s1 s0 bf1 z0) (hz : z + 40 ≤ 65536) (hm : mk 2 = md 3) : EndM L (z + 40) (M_Mk_addLong mk (M_Mk_addEntry mk (M_Mk_addEntry mk (M_Mk_addEntry mk ro 282 5 1 v3) 283 5 1 (v3 + 8)) 296 3 1 2) 0) md (K_Md_close_358 v1 v3 md s1.1 s1.2) bf1 z0 (z + 36) ∧ GK_Md_close_358 v1 v3 md s1.1 s1.2 := by
  obtain ⟨a1, g1⟩ := h.entry (by omega) hm 282 5 1 v3
  obtain ⟨a2, g2⟩ := a1.entry (by omega) hm 283 5 1 (v3 + 8)
  obtain ⟨a3, g3⟩ := a2.entry (by omega) hm 296 3 1 2
  obtain ⟨a4, g4⟩ := k391 (v1 := v1) (v3 := v3) a3 (by omega) hm
  refine ⟨a4, g1, fun x3 h3 => ?_⟩
  rw [h3]
  refine ⟨g2, fun x4 h4 => ?_⟩
  rw [h4]
  refine ⟨g3, fun x5 h5 => ?_⟩
  rw [h5]
  exact g4
theorem k321 {b : Int32} (hb : (md 11 ≤ 1 ∧ b = ml (0 : Int32).toNatClampNeg) ∨ (¬ md 11 ≤ 1 ∧ b = v1 + (4 * (md 11)))) (h : StpM L z ro s1 s0 bf1 z0) (hz : z + 52 ≤ 65536) (hm : mk 2 = md 3) : EndM L (z + 52) (M_Mk_addLong mk (M_Mk_addEntry mk (M_Mk_addEntry mk (M_Mk_addEntry mk (M_Mk_addEntry mk ro 279 4 (md 11) b) 282 5 1 v3) 283 5 1 (v3 + 8)) 296 3 1 2) 0) md (K_Md_close_321 ml v1 v3 md s1.1 s1.2) bf1 z0 (z + 48) ∧ GK_Md_close_321 ml v1 v3 md s1.1 s1.2 := by
  obtain ⟨a1, g1⟩ := h.entry (by omega) hm 279 4 (md 11) b
  obtain ⟨a4, g4⟩ := k358 (v1 := v1) (v3 := v3) a1 (by omega) hm
  unfold K_Md_close_321 GK_Md_close_321
  rcases hb with ⟨c, rfl⟩ | ⟨c, rfl⟩
  · rw [if_pos c, if_pos c]
    refine ⟨a4, (by rw [vp_in_iff]; decide), g1, fun x h => ?_⟩
    rw [h]
    exact g4
  · rw [if_neg c, if_neg c]
    refine ⟨a4, g1, fun x h => ?_⟩
    rw [h]
    exact g4
theorem k308 {b : Int32} (hb : (md 11 ≤ 1 ∧ b = ml (0 : Int32).toNatClampNeg) ∨ (¬ md 11 ≤ 1 ∧ b = v1 + (4 * (md 11)))) (h : StpM L z ro s1 s0 bf1 z0) (hz : z + 64 ≤ 65536) (hm : mk 2 = md 3) : EndM L (z + 64) (M_Mk_addLong mk (M_Mk_addEntry mk (M_Mk_addEntry mk (M_Mk_addEntry mk (M_Mk_addEntry mk (M_Mk_addEntry mk ro 278 4 1 (md 8)) 279 4 (md 11) b) 282 5 1 v3) 283 5 1 (v3 + 8)) 296 3 1 2) 0) md (K_Md_close_308 ml v1 v3 md s1.1 s1.2) bf1 z0 (z + 60) ∧ GK_Md_close_308 ml v1 v3 md s1.1 s1.2 := by
  obtain ⟨a1, g1⟩ := h.entry (by omega) hm 278 4 1 (md 8)
  obtain ⟨a4, g4⟩ := k321 (v1 := v1) (v3 := v3) hb a1 (by omega) hm
  refine ⟨a4, g1, fun x h => ?_⟩
  rw [h]
  exact g4
theorem k278 {a b : Int32} (ha : (md 11 ≤ 1 ∧ a = mp (0 : Int32).toNatClampNeg) ∨ (¬ md 11 ≤ 1 ∧ a = v1)) (hb : (md 11 ≤ 1 ∧ b = ml (0 : Int32).toNatClampNeg) ∨ (¬ md 11 ≤ 1 ∧ b = v1 + (4 * (md 11)))) (h : StpM L z ro s1 s0 bf1 z0) (hz : z + 76 ≤ 65536) (hm : mk 2 = md 3) : EndM L (z + 76) (M_Mk_addLong mk (M_Mk_addEntry mk (M_Mk_addEntry mk (M_Mk_addEntry mk (M_Mk_addEntry mk (M_Mk_addEntry mk (M_Mk_addEntry mk ro 273 4 (md 11) a) 278 4 1 (md 8)) 279 4 (md 11) b) 282 5 1 v3) 283 5 1 (v3 + 8)) 296 3 1 2) 0) md (K_Md_close_278 mp ml v1 v3 md s1.1 s1.2) bf1 z0 (z + 72) ∧ GK_Md_close_278 mp ml v1 v3 md s1.1 s1.2 := by
  obtain ⟨a1, g1⟩ := h.entry (by omega) hm 273 4 (md 11) a
  obtain ⟨a4, g4⟩ := k308 (v1 := v1) (v3 := v3) hb a1 (by omega) hm
  unfold K_Md_close_278 GK_Md_close_278
  rcases ha with ⟨c, rfl⟩ | ⟨c, rfl⟩
  · rw [if_pos c, if_pos c]
    refine ⟨a4, (by rw [vp_in_iff]; decide), g1, fun x h => ?_⟩
    rw [h]
    exact g4
  · rw [if_neg c, if_neg c]
    refine ⟨a4, g1, fun x h => ?_⟩
    rw [h]
    exact g4
/-- the directory that the class adds -/
def Dir (mk : Nat → Int32) (ro : RowS) (m5 m6 m7 n a b v3 : Int32) : RowS := M_Mk_addLong mk (M_Mk_addEntry mk (M_Mk_addEntry mk (M_Mk_addEntry mk (M_Mk_addEntry mk (M_Mk_addEntry mk (M_Mk_addEntry mk (M_Mk_addEntry mk (M_Mk_addEntry mk (M_Mk_addEntry mk (M_Mk_addEntry mk (M_Mk_addShort mk ro 10) 256 4 1 m5) 257 4 1 m6) 259 3 1 4) 262 3 1 0) 273 4 n a) 278 4 1 m7) 279 4 n b) 282 5 1 v3) 283 5 1 (v3 + 8)) 296 3 1 2) 0
theorem dir_val {mk : Nat → Int32} {ro st : RowS} {p0 p1 a b : Int32} (h : (M_Mk_hasLists st = 0 ∧ a = M_St_get st 0 0 ∧ b = M_St_get st 0 1) ∨ (¬ M_Mk_hasLists st = 0 ∧ a = p0 ∧ b = p0 + 4 * st.2.2)) : M_Mk_addDirectory mk ro st p0 p1 = Dir mk ro (mk 5) (mk 6) (mk 7) st.2.2 a b p1 := by
  unfold M_Mk_addDirectory
  (try dsimp only)
  rcases h with ⟨c, rfl, rfl⟩ | ⟨c, rfl, rfl⟩
  · rw [if_pos c]
    rfl
  · rw [if_neg c]
    rfl
theorem k232 {a b : Int32} (ha : (md 11 ≤ 1 ∧ a = mp (0 : Int32).toNatClampNeg) ∨ (¬ md 11 ≤ 1 ∧ a = v1)) (hb : (md 11 ≤ 1 ∧ b = ml (0 : Int32).toNatClampNeg) ∨ (¬ md 11 ≤ 1 ∧ b = v1 + (4 * (md 11)))) (h : StpM L z (M_Mk_addShort mk ro 10) s1 s0 bf1 z0) (hz : z + 124 ≤ 65536) (hm : mk 2 = md 3) : EndM L (z + 124) (Dir mk ro (md 6) (md 7) (md 8) (md 11) a b v3) md (K_Md_close_232 mp ml v1 v3 md s1.1 s1.2) bf1 z0 (z + 120) ∧ GK_Md_close_232 mp ml v1 v3 md s1.1 s1.2 := by
  obtain ⟨a1, g1⟩ := h.entry (by omega) hm 256 4 1 (md 6)
  obtain ⟨a2, g2⟩ := a1.entry (by omega) hm 257 4 1 (md 7)
  obtain ⟨a3, g3⟩ := a2.entry (by omega) hm 259 3 1 4
  obtain ⟨a4, g4⟩ := a3.entry (by omega) hm 262 3 1 0
  obtain ⟨a5, g5⟩ := k278 (v1 := v1) (v3 := v3) ha hb a4 (by omega) hm
  refine ⟨a5, g1, fun x h => ?_⟩
  rw [h]
  refine ⟨g2, fun x h => ?_⟩
  rw [h]
  refine ⟨g3, fun x h => ?_⟩
  rw [h]
  refine ⟨g4, fun x h => ?_⟩
  rw [h]
  exact g5
end K
theorem far_one {z j : Nat} (hz : z ≤ 65536) (hj : ¬ j = z) (bf : Nat → Int32) (v : Int32) : (M_Md_one (nI z) bf v).2 j = bf j := by
  rw [one_val rfl hz]
  exact pk_un hj
theorem four_off {L : Nat} (hL : L + 4 ≤ 65536) (md bf : Nat → Int32) (v : Int32) : Off L (M_Md_four md (nI L) bf v).2 bf := by
  intro j hj
  have e1 : ∀ (k : Nat) (f : Nat → Int32) (w : Int32), k ≤ 65536 → (M_Md_one (nI k) f w).1 = nI (k + 1) := fun k f w hk => by rw [one_val rfl hk]
  have t : ∀ (k : Nat) (f : Nat → Int32) (w : Int32), L ≤ k → k + 2 ≤ L + 4 → (M_Md_two md (nI k) f w).2 j = f j := by
    intro k f w h1 h2
    by_cases ho : md 3 = 77
    · rw [two_be ho, e1 k _ _ (by omega), far_one (by omega) (by omega), far_one (by omega) (by omega)]
    · rw [two_le ho, e1 k _ _ (by omega), far_one (by omega) (by omega), far_one (by omega) (by omega)]
  have e2 : ∀ w, (M_Md_two md (nI L) bf w).1 = nI (L + 2) := fun w => two_sz rfl (by omega) _ _
  by_cases ho : md 3 = 77
  · rw [four_be ho, e2, t _ _ _ (by omega) (by omega), t _ _ _ (by omega) (by omega)]
  · rw [four_le ho, e2, t _ _ _ (by omega) (by omega), t _ _ _ (by omega) (by omega)]
/-- from the fineness on -/
theorem k183 {ro : RowS} {sz : Int32} {bf mk md mp ml : Nat → Int32} {z L : Nat} {v1 a b : Int32} (h : FR ro sz bf z) (hz : z + 142 ≤ 65536) (hm : mk 2 = md 3) (hL : md 5 = nI L) (hLz : L + 4 ≤ z) (ha : (md 11 ≤ 1 ∧ a = mp (0 : Int32).toNatClampNeg) ∨ (¬ md 11 ≤ 1 ∧ a = v1)) (hb : (md 11 ≤ 1 ∧ b = ml (0 : Int32).toNatClampNeg) ∨ (¬ md 11 ≤ 1 ∧ b = v1 + (4 * (md 11)))) :
    (∃ e1 : Int32 × (Nat → Int32), K_Md_close_183 mp ml v1 md sz bf = (e1.1, upd (upd (upd md 2 0) 4 (md 4 + 1)) 5 (nI (z + 138)), e1.1, e1.2) ∧ e1.1 = nI (z + 142) ∧
      FR (M_Row_replaceLong (Dir mk (M_Mk_addFineness mk (M_Mk_addFineness mk ro (md 9)) (md 10)) (md 6) (md 7) (md 8) (md 11) a b sz) (md 5) (M_Mk_addFineness mk (M_Mk_addFineness mk ro (md 9)) (md 10)).2.2.toInt64 (mk 2)) e1.1 e1.2 (z + 142)) ∧ (M_Mk_addFineness mk (M_Mk_addFineness mk ro (md 9)) (md 10)).2.2 = nI (z + 16) ∧ GK_Md_close_183 mp ml v1 md sz bf := by
  obtain ⟨f1, g1⟩ := h.four (by omega) md (md 9)
  obtain ⟨f2, g2⟩ := f1.four (by omega) md 1
  obtain ⟨f3, g3⟩ := f2.four (by omega) md (md 10)
  obtain ⟨f4, g4⟩ := f3.four (by omega) md 1
  have ef : M_Mk_addFineness mk (M_Mk_addFineness mk ro (md 9)) (md 10) = M_Row_append (M_Row_append (M_Row_append (M_Row_append ro (md 9).toInt64 4 (md 3)) (1 : Int32).toInt64 4 (md 3)) (md 10).toInt64 4 (md 3)) (1 : Int32).toInt64 4 (md 3) := by
    rw [← hm]
    rfl
  rw [← ef] at f4
  obtain ⟨ro4, hro4⟩ : ∃ r, r = M_Mk_addFineness mk (M_Mk_addFineness mk ro (md 9)) (md 10) := ⟨_, rfl⟩
  obtain ⟨s4, hs4⟩ : ∃ s, s = M_Md_four md (M_Md_four md (M_Md_four md (M_Md_four md sz bf (md 9)).1 (M_Md_four md sz bf (md 9)).2 1).1 (M_Md_four md (M_Md_four md sz bf (md 9)).1 (M_Md_four md sz bf (md 9)).2 1).2 (md 10)).1 (M_Md_four md (M_Md_four md (M_Md_four md sz bf (md 9)).1 (M_Md_four md sz bf (md 9)).2 1).1 (M_Md_four md (M_Md_four md sz bf (md 9)).1 (M_Md_four md sz bf (md 9)).2 1).2 (md 10)).2 1 := ⟨_, rfl⟩
  rw [← hs4, ← hro4] at f4
  have e4 : s4.1 = nI (z + 16) := f4.2.2.2.1
  rw [← hro4]
  have st : StpM L (z + 16) ro4 (s4.1, M_Md_fourAt md s4.2 (nI L) s4.1) s4 (M_Md_fourAt md s4.2 (nI L) s4.1) (z + 16) := ⟨f4, rfl, four_off (by omega) md s4.2 s4.1, fun _ _ => rfl, by omega⟩
  obtain ⟨t1, u1⟩ := st.two (by omega) md 10
  have eS : M_Row_append ro4 (10 : Int32).toInt64 2 (md 3) = M_Mk_addShort mk ro4 10 := by rw [← hm]; rfl
  rw [eS] at t1
  obtain ⟨⟨e1, e0, hK, hE⟩, u2⟩ := k232 (v1 := v1) (v3 := sz) ha hb t1 (by omega) hm
  refine ⟨⟨e1, ?_, hE.sz, ?_⟩, f4.2.2.1, ?_⟩
  · rw [← hK]
    unfold K_Md_close_183 K_Md_close_214
    (try dsimp only)
    rw [← hs4, hL]
  · have := link_end md s4.1 (by omega) hE
    rw [hm, hL, f4.2.2.1, ← e4]
    exact this
  · unfold GK_Md_close_183
    refine ⟨g1, fun x h => ?_⟩
    rw [h]
    refine ⟨g2, fun x h => ?_⟩
    rw [h]
    refine ⟨g3, fun x h => ?_⟩
    rw [h]
    refine ⟨g4, fun x h => ?_⟩
    rw [h, ← hs4]
    unfold GK_Md_close_214
    rw [hL]
    refine ⟨?_, fun x h => ?_⟩
    · show G_Md_four md (nI L) s4.2 s4.1
      exact g_four rfl (by omega) _ _
    rw [h]
    refine ⟨u1, fun x h => ?_⟩
    rw [h]
    exact u2
-- the lists of places and lengths
theorem sget {st : RowS} {i w : Nat} (h1 : 2 * i + w < st.1) (h2 : st.1 ≤ 16384) : M_St_get st (nI i) (nI w) = st.2.1 (2 * i + w) := by
  have e : ((2 : Int32) * nI i) + nI w = nI (2 * i + w) := by
    have e2 : (2 : Int32) * nI i = nI (2 * i) := pk_mul 2 i
    rw [e2, nI_add]
  unfold M_St_get
  rw [e, if_neg (nI_pos (by omega)), if_neg (nI_ge h1 (by omega)), nI_clamp (by omega)]
theorem list1 {st : RowS} {mk md mp ml : Nat → Int32} {n : Nat} {v1 : Int32} (hn : md 11 = nI n) (h2 : 2 ≤ n) (h5 : n ≤ 512) (hm : mk 2 = md 3) (hs : st.2.2 = nI n) (hr : 2 * n ≤ st.1) (hr2 : st.1 ≤ 16384) (hc : ∀ j, j < n → st.2.1 (2 * j) = mp j) : ∀ (r i f g : Nat) (ro : RowS) (sz : Int32) (bf : Nat → Int32) (z : Nat), i + r = n → r < f → r < g → FR ro sz bf z → z + 4 * r ≤ 65536 →
    ∃ sz' bf', L_Md_close_117 mp ml g v1 (nI i) md sz bf = L_Md_close_151 mp ml (((md 11).toInt - (0 : Int32).toInt).toNat + 1) v1 0 md sz' bf' ∧ FR (L_Mk_addList mk st 0 f (nI i) ro) sz' bf' (z + 4 * r) ∧ (GL_Md_close_151 mp ml (((md 11).toInt - (0 : Int32).toInt).toNat + 1) v1 0 md sz' bf' → GL_Md_close_117 mp ml g v1 (nI i) md sz bf) := by
  have c1 : ¬ md 11 ≤ 1 := by rw [hn]; exact nI_ge (a := 1) (by omega) (by omega)
  intro r
  induction r with
  | zero =>
    intro i f g ro sz bf z hi hf hg h hz
    obtain ⟨f, rfl⟩ : ∃ f', f = f' + 1 := ⟨f - 1, by omega⟩
    obtain ⟨g, rfl⟩ : ∃ g', g = g' + 1 := ⟨g - 1, by omega⟩
    have e : i = n := by omega
    have c : md 11 ≤ nI n := by rw [hn]; exact Int32.le_refl _
    have c' : st.2.2 ≤ nI n := by rw [hs]; exact Int32.le_refl _
    rw [e, L_Md_close_117, GL_Md_close_117, L_Mk_addList, if_pos c, if_pos c, if_pos c']
    exact ⟨sz, bf, rfl, h, id⟩
  | succ r ih =>
    intro i f g ro sz bf z hi hf hg h hz
    obtain ⟨f, rfl⟩ : ∃ f', f = f' + 1 := ⟨f - 1, by omega⟩
    obtain ⟨g, rfl⟩ : ∃ g', g = g' + 1 := ⟨g - 1, by omega⟩
    have c : ¬ md 11 ≤ nI i := by rw [hn]; exact nI_ge (by omega) (by omega)
    have c' : ¬ st.2.2 ≤ nI i := by rw [hs]; exact nI_ge (by omega) (by omega)
    have eg : M_St_get st (nI i) 0 = mp i := by
      have := sget (st := st) (i := i) (w := 0) (by omega) hr2
      rw [Nat.add_zero, hc i (by omega)] at this
      exact this
    obtain ⟨a, ga⟩ := h.four (by omega) md (mp i)
    have el : M_Mk_addLong mk ro (mp i) = M_Row_append ro (mp i).toInt64 4 (md 3) := by rw [← hm]; rfl
    rw [← el] at a
    obtain ⟨sz', bf', b1, b2, b3⟩ := ih (i + 1) f g _ _ _ (z + 4) (by omega) (by omega) (by omega) a (by omega)
    rw [L_Md_close_117, GL_Md_close_117, L_Mk_addList, if_neg c, if_neg c, if_neg c1, if_neg c1, if_neg c', eg, nI_1, nI_clamp (by omega)]
    refine ⟨sz', bf', b1, ?_, fun q => ⟨vp_in_nI (by omega) (by omega), ga, fun x hx => by rw [hx]; exact b3 q⟩⟩
    have ez : z + 4 * (r + 1) = z + 4 + 4 * r := by omega
    rw [ez]
    exact b2
theorem list2 {st : RowS} {mk md mp ml : Nat → Int32} {n : Nat} {v1 : Int32} (hn : md 11 = nI n) (h2 : 2 ≤ n) (h5 : n ≤ 512) (hm : mk 2 = md 3) (hs : st.2.2 = nI n) (hr : 2 * n ≤ st.1) (hr2 : st.1 ≤ 16384) (hc : ∀ j, j < n → st.2.1 (2 * j + 1) = ml j) : ∀ (r i f g : Nat) (ro : RowS) (sz : Int32) (bf : Nat → Int32) (z : Nat), i + r = n → r < f → r < g → FR ro sz bf z → z + 4 * r ≤ 65536 →
    ∃ sz' bf', L_Md_close_151 mp ml g v1 (nI i) md sz bf = K_Md_close_183 mp ml v1 md sz' bf' ∧ FR (L_Mk_addList mk st 1 f (nI i) ro) sz' bf' (z + 4 * r) ∧ (GK_Md_close_183 mp ml v1 md sz' bf' → GL_Md_close_151 mp ml g v1 (nI i) md sz bf) := by
  have c1 : ¬ md 11 ≤ 1 := by rw [hn]; exact nI_ge (a := 1) (by omega) (by omega)
  intro r
  induction r with
  | zero =>
    intro i f g ro sz bf z hi hf hg h hz
    obtain ⟨f, rfl⟩ : ∃ f', f = f' + 1 := ⟨f - 1, by omega⟩
    obtain ⟨g, rfl⟩ : ∃ g', g = g' + 1 := ⟨g - 1, by omega⟩
    have e : i = n := by omega
    have c : md 11 ≤ nI n := by rw [hn]; exact Int32.le_refl _
    have c' : st.2.2 ≤ nI n := by rw [hs]; exact Int32.le_refl _
    rw [e, L_Md_close_151, GL_Md_close_151, L_Mk_addList, if_pos c, if_pos c, if_pos c']
    exact ⟨sz, bf, rfl, h, id⟩
  | succ r ih =>
    intro i f g ro sz bf z hi hf hg h hz
    obtain ⟨f, rfl⟩ : ∃ f', f = f' + 1 := ⟨f - 1, by omega⟩
    obtain ⟨g, rfl⟩ : ∃ g', g = g' + 1 := ⟨g - 1, by omega⟩
    have c : ¬ md 11 ≤ nI i := by rw [hn]; exact nI_ge (by omega) (by omega)
    have c' : ¬ st.2.2 ≤ nI i := by rw [hs]; exact nI_ge (by omega) (by omega)
    have eg : M_St_get st (nI i) 1 = ml i := by
      have := sget (st := st) (i := i) (w := 1) (by omega) hr2
      rw [hc i (by omega)] at this
      exact this
    obtain ⟨a, ga⟩ := h.four (by omega) md (ml i)
    have el : M_Mk_addLong mk ro (ml i) = M_Row_append ro (ml i).toInt64 4 (md 3) := by rw [← hm]; rfl
    rw [← el] at a
    obtain ⟨sz', bf', b1, b2, b3⟩ := ih (i + 1) f g _ _ _ (z + 4) (by omega) (by omega) (by omega) a (by omega)
    rw [L_Md_close_151, GL_Md_close_151, L_Mk_addList, if_neg c, if_neg c, if_neg c1, if_neg c1, if_neg c', eg, nI_1, nI_clamp (by omega)]
    refine ⟨sz', bf', b1, ?_, fun q => ⟨vp_in_nI (by omega) (by omega), ga, fun x hx => by rw [hx]; exact b3 q⟩⟩
    have ez : z + 4 * (r + 1) = z + 4 + 4 * r := by omega
    rw [ez]
    exact b2
end PR8
