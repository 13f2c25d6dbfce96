section PR2
theorem RelM.idle {mk : Nat → Int32} {st : RowS} {md : Nat → Int32} {sz fr : Int32} {mp ml : Nat → Int32} (h : RelM mk st md sz fr mp ml) (h1 : md 1 = 0) (sz' fr' : Int32) : RelM mk st md sz' fr' mp ml := by
  obtain ⟨a, b, c, d, e, f, g, i⟩ := h
  have n1 : ¬ md 1 = 1 := by rw [h1]; decide
  have n2 : ¬ md 2 = 1 := fun q => n1 (d q)
  exact ⟨a, b, c, d, e, fun q => absurd q n1, g, fun q => absurd q n2⟩
theorem within_iff (x a b : Int64) : M_PF_isWithin x a b = 0 ↔ x < a ∨ b < x := by
  unfold M_PF_isWithin
  by_cases h1 : lg_cmp x a < 0
  · rw [if_pos h1]
    exact ⟨fun _ => Or.inl ((lg_cmp_lt x a).mp h1), fun _ => rfl⟩
  · rw [if_neg h1]
    by_cases h2 : 0 < lg_cmp x b
    · rw [if_pos h2]
      exact ⟨fun _ => Or.inr ((lg_cmp_gt x b).mp h2), fun _ => rfl⟩
    · rw [if_neg h2]
      refine ⟨fun h => absurd h (by decide), fun h => ?_⟩
      rcases h with h | h
      · exact absurd ((lg_cmp_lt x a).mpr h) h1
      · exact absurd ((lg_cmp_gt x b).mpr h) h2
theorem l_lt (p : Int32) {n : Nat} (h : n < 2 ^ 31) : p.toInt64 < lN n ↔ p < nI n := by
  rw [i64_lt, i32_lt, Int32.toInt_toInt64, lN_toInt h, nI_toInt h]
theorem l_gt (p : Int32) {n : Nat} (h : n < 2 ^ 31) : lN n < p.toInt64 ↔ nI n < p := by
  rw [i64_lt, i32_lt, Int32.toInt_toInt64, lN_toInt h, nI_toInt h]
theorem part_iff (p : Int32) : M_PF_isPartLength p = 0 ↔ p < 1 ∨ 8 < p := by
  unfold M_PF_isPartLength
  rw [within_iff]
  have a := l_lt p (n := 1) (by omega)
  have b := l_gt p (n := 8) (by omega)
  exact or_congr a b
theorem part_n {p : Int32} (h1 : ¬ p < 1) (h2 : ¬ 8 < p) : ∃ n, p = nI n ∧ 1 ≤ n ∧ n ≤ 8 := by
  obtain ⟨j, hj, rfl⟩ := nI_of (x := p) (fun h => h1 (by
    rw [i32_lt] at h ⊢
    have e0 : (0 : Int32).toInt = 0 := by decide
    have e1 : (1 : Int32).toInt = 1 := by decide
    omega))
  have a : ¬ nI j < nI 1 := h1
  have b : ¬ nI 8 < nI j := h2
  rw [nI_ltI hj (by omega)] at a
  rw [nI_ltI (by omega) hj] at b
  exact ⟨j, rfl, by omega, by omega⟩
theorem nI_sum {a b c : Nat} (ha : a < 2 ^ 30) (hb : b < 2 ^ 30) (hc : c < 2 ^ 31) : nI a + nI b ≤ nI c ↔ a + b ≤ c := by
  rw [nI_add, nI_leI (by omega) hc]
theorem nI_dec {n : Nat} (h : 1 ≤ n) : nI n - 1 = nI n + (-1) := by
  have a : nI n - nI 1 = nI (n - 1) := pk_sub h
  have b : nI n + (-1) = nI (n - 1) := sb_m1 (by omega)
  rw [b, ← a]
  rfl
/-- the bytes of a part, on both sides -/
theorem give_core {ro : RowS} {sz : Int32} {bf : Nat → Int32} {z n : Nat} (md : Nat → Int32) (p : Int64) (h : FR ro sz bf z) (hn : 1 ≤ n ∧ n ≤ 8) (hz : z + n ≤ 65536) :
    FR (M_Row_append ro p (nI n) 77) (L_Md_give md p (((nI n - 1).toInt + 1).toNat + 1) (nI n - 1) sz bf).2.2.1 (L_Md_give md p (((nI n - 1).toInt + 1).toNat + 1) (nI n - 1) sz bf).2.2.2 (z + n) ∧ (L_Md_give md p (((nI n - 1).toInt + 1).toNat + 1) (nI n - 1) sz bf).1 = 1 ∧ (L_Md_give md p (((nI n - 1).toInt + 1).toNat + 1) (nI n - 1) sz bf).2.1 = upd md 0 0 ∧ GL_Md_give md p (((nI n - 1).toInt + 1).toNat + 1) (nI n - 1) sz bf := by
  have e1 : (nI n - 1).toInt = (n : Int) - 1 := by
    have := pk_sub_toInt (a := n) (b := 1) (by omega) (by omega)
    exact this
  have e0 : (0 : Int32).toInt = 0 := by decide
  rw [e1, nI_dec hn.1]
  have e2 : M_Row_append ro p (nI n) 77 = L_Row_append p (nI n) 77 (((nI n).toInt - (0 : Int32).toInt).toNat + 1) (nI 0) ro := rfl
  rw [e2, nI_toInt (by omega), e0]
  exact give_loop (md := md) (p := p) hn.2 n 0 _ _ ro sz bf z (by omega) (by omega) (by omega) h hz
theorem ag_give : AG_give := by
  intro mk ro st rd nu rs fs md sz fr bf mp ml mn mf sp sl hR p0 p1
  obtain ⟨hro, hst, hrs, hF, hM, hRd⟩ := id hR
  obtain ⟨z, hz⟩ := FR.of hro hF
  have e0 : mk 0 = md 1 := hM.1.1
  have es : ro.2.2 = sz := by rw [hz.2.2.1, hz.2.2.2.1]
  unfold M_PF_give M_Md_give
  by_cases c1 : md 1 = 0
  · rw [if_pos (e0.trans c1), if_pos c1]
    by_cases c2 : p1 < 1
    · rw [if_pos ((part_iff p1).mpr (Or.inl c2)), if_pos c2]
      exact ⟨rfl, hR⟩
    · by_cases c3 : 8 < p1
      · rw [if_pos ((part_iff p1).mpr (Or.inr c3)), if_neg c2, if_pos c3]
        exact ⟨rfl, hR⟩
      · have c4 : ¬ M_PF_isPartLength p1 = 0 := fun h => ((part_iff p1).mp h).elim c2 c3
        rw [if_neg c4, if_neg c2, if_neg c3, es]
        by_cases c5 : sz + p1 ≤ 65536
        · rw [if_pos c5, if_pos c5]
          obtain ⟨n, rfl, hn⟩ := part_n c2 c3
          have c6 : nI z + nI n ≤ nI 65536 := by rw [← hz.2.2.2.1]; exact c5
          rw [nI_sum (by have := hz.2.1; omega) (by omega) (by omega)] at c6
          obtain ⟨b1, b2, b3, -⟩ := give_core md p0 hz hn c6
          refine ⟨b2.symm, b1.1, hst, hrs, b1.rel, ?_, ?_⟩
          · show RelM mk st (L_Md_give md p0 _ _ sz bf).2.1 _ fr mp ml
            rw [b3]
            exact hM.idle c1 _ _
          · show RelR rd nu rs fs (L_Md_give md p0 _ _ sz bf).2.1 mn mf sp sl
            rw [b3]
            exact hRd
        · rw [if_neg c5, if_neg c5]
          exact ⟨rfl, hR⟩
  · rw [if_neg (fun h => c1 (e0.symm.trans h)), if_neg c1]
    exact ⟨rfl, hR⟩
theorem gr_Md_give : GR_give := by
  intro mk ro st rd nu rs fs md sz fr bf mp ml mn mf sp sl hR p0 p1
  obtain ⟨hro, hst, hrs, hF, hM, hRd⟩ := id hR
  obtain ⟨z, hz⟩ := FR.of hro hF
  unfold G_Md_give
  by_cases c1 : md 1 = 0
  · rw [if_pos c1]
    by_cases c2 : p1 < 1
    · rw [if_pos c2]; trivial
    · rw [if_neg c2]
      by_cases c3 : 8 < p1
      · rw [if_pos c3]; trivial
      · rw [if_neg c3]
        by_cases c5 : sz + p1 ≤ 65536
        · rw [if_pos c5]
          obtain ⟨n, rfl, hn⟩ := part_n c2 c3
          have c6 : nI z + nI n ≤ nI 65536 := by rw [← hz.2.2.2.1]; exact c5
          rw [nI_sum (by have := hz.2.1; omega) (by omega) (by omega)] at c6
          intro y hy
          rw [hy]
          exact (give_core md p0 hz hn c6).2.2.2
        · rw [if_neg c5]; trivial
  · rw [if_neg c1]; trivial
-- poke, cut
theorem rep_val {ro : RowS} {z k : Nat} (h : RowOK ro) (hz : ro.2.2 = nI z) (hle : z ≤ ro.1) (hk : k < z) (v : Int32) : M_Row_replace ro (nI k) v = (ro.1, upd ro.2.1 k (vp_nar .byte v.toInt8.toInt32), ro.2.2) := by
  have hb := h.le
  unfold M_Row_replace
  rw [if_neg (nI_pos (by omega)), hz, if_neg (nI_ge hk (by omega)), if_neg (nI_ge (by omega) (by omega)), nI_clamp (by omega)]
theorem FR.rep {ro : RowS} {sz : Int32} {bf : Nat → Int32} {z k : Nat} (h : FR ro sz bf z) (hk : k < z) {v w : Int32} (hv : v.toInt % 256 = w.toInt % 256) : FR (M_Row_replace ro (nI k) v) sz (upd bf k (vp_nar .byte w.toInt8.toInt32)) z := by
  have hok := ok_Row_replace h.1 (nI k) v
  rw [rep_val h.1 h.2.2.1 h.le hk v] at hok ⊢
  refine ⟨hok, h.2.1, h.2.2.1, h.2.2.2.1, fun j hj => ?_⟩
  show upd bf k _ j = upd ro.2.1 k _ j
  by_cases e : j = k
  · rw [e, pk_us, pk_us, low8 hv]
  · rw [pk_un e, pk_un e]
    exact h.2.2.2.2 j hj
theorem FR.cut {ro : RowS} {sz : Int32} {bf : Nat → Int32} {z k : Nat} (h : FR ro sz bf z) (hk : k ≤ z) : FR (ro.1, ro.2.1, nI k) (nI k) bf k := by
  have hle := h.le
  have hz := h.2.1
  exact ⟨⟨h.1.1, ⟨k, rfl, by show k ≤ ro.1; omega⟩, h.1.2.2⟩, by omega, rfl, rfl, fun j hj => h.2.2.2.2 j (by omega)⟩
theorem ag_poke : AG_poke := by
  intro mk ro st rd nu rs fs md sz fr bf mp ml mn mf sp sl hR p0 p1
  obtain ⟨hro, hst, hrs, hF, hM, hRd⟩ := id hR
  obtain ⟨z, hz⟩ := FR.of hro hF
  have e0 : mk 0 = md 1 := hM.1.1
  have es : ro.2.2 = sz := by rw [hz.2.2.1, hz.2.2.2.1]
  unfold M_PF_poke M_Md_poke
  by_cases c1 : md 1 = 0
  · rw [if_pos (e0.trans c1), if_pos c1]
    by_cases c2 : p0 < 0
    · rw [if_pos c2, if_pos c2]
      exact ⟨rfl, hR⟩
    · rw [if_neg c2, if_neg c2, es]
      by_cases c3 : p0 < sz
      · rw [if_pos c3, if_pos c3]
        obtain ⟨k, hk, rfl⟩ := nI_of c2
        have c4 : nI k < nI z := by rw [← hz.2.2.2.1]; exact c3
        rw [nI_ltI hk (by have := hz.2.1; omega)] at c4
        have b := hz.rep c4 (v := p1) (w := p1) rfl
        rw [nI_clamp hk]
        exact ⟨rfl, b.1, hst, hrs, b.rel, hM, hRd⟩
      · rw [if_neg c3, if_neg c3]
        exact ⟨rfl, hR⟩
  · rw [if_neg (fun h => c1 (e0.symm.trans h)), if_neg c1]
    exact ⟨rfl, hR⟩
theorem gr_Md_poke : GR_poke := by
  intro mk ro st rd nu rs fs md sz fr bf mp ml mn mf sp sl hR p0
  obtain ⟨hro, hst, hrs, hF, hM, hRd⟩ := id hR
  obtain ⟨z, hz⟩ := FR.of hro hF
  unfold G_Md_poke
  by_cases c1 : md 1 = 0
  · rw [if_pos c1]
    by_cases c2 : p0 < 0
    · rw [if_pos c2]; trivial
    · rw [if_neg c2]
      by_cases c3 : p0 < sz
      · rw [if_pos c3]
        obtain ⟨k, hk, rfl⟩ := nI_of c2
        have c4 : nI k < nI z := by rw [← hz.2.2.2.1]; exact c3
        rw [nI_ltI hk (by have := hz.2.1; omega)] at c4
        exact vp_in_nI (by have := hz.2.1; omega) (by omega)
      · rw [if_neg c3]; trivial
  · rw [if_neg c1]; trivial
theorem ag_cut : AG_cut := by
  intro mk ro st rd nu rs fs md sz fr bf mp ml mn mf sp sl hR p0
  obtain ⟨hro, hst, hrs, hF, hM, hRd⟩ := id hR
  obtain ⟨z, hz⟩ := FR.of hro hF
  have e0 : mk 0 = md 1 := hM.1.1
  have es : ro.2.2 = sz := by rw [hz.2.2.1, hz.2.2.2.1]
  unfold M_PF_cut M_Md_cut
  by_cases c1 : md 1 = 0
  · rw [if_pos (e0.trans c1), if_pos c1]
    by_cases c2 : p0 < 0
    · rw [if_pos c2, if_pos c2]
      exact ⟨rfl, hR⟩
    · rw [if_neg c2, if_neg c2, es]
      by_cases c3 : p0 ≤ sz
      · rw [if_pos c3, if_pos c3]
        obtain ⟨k, hk, rfl⟩ := nI_of c2
        have c4 : nI k ≤ nI z := by rw [← hz.2.2.2.1]; exact c3
        rw [nI_leI hk (by have := hz.2.1; omega)] at c4
        have b := hz.cut c4
        exact ⟨rfl, b.1, hst, hrs, b.rel, hM.idle c1 _ _, hRd⟩
      · rw [if_neg c3, if_neg c3]
        exact ⟨rfl, hR⟩
  · rw [if_neg (fun h => c1 (e0.symm.trans h)), if_neg c1]
    exact ⟨rfl, hR⟩
-- fault, look
theorem ag_fault : AG_fault := by
  intro mk ro st rd nu rs fs md sz fr bf mp ml mn mf sp sl hR p0
  obtain ⟨hro, hst, hrs, hF, hM, hRd⟩ := id hR
  obtain ⟨⟨-, -, r3, r4, r5, r6, -⟩, -⟩ := hRd
  unfold M_PF_fault M_Rd_faultNumber M_Md_fault
  rw [r3, r4, r5, r6]
  by_cases c1 : md 16 = 0
  · rw [if_pos c1, if_pos c1]
    exact ⟨rfl, hR⟩
  · rw [if_neg c1, if_neg c1]
    by_cases c2 : p0 < 0
    · have n0 : ¬ p0 = 0 := fun h => by rw [h] at c2; exact absurd c2 (by decide)
      have n1 : ¬ p0 = 1 := fun h => by rw [h] at c2; exact absurd c2 (by decide)
      have n2 : ¬ p0 = 2 := fun h => by rw [h] at c2; exact absurd c2 (by decide)
      rw [if_pos c2, if_neg n0, if_neg n1, if_neg n2]
      exact ⟨rfl, hR⟩
    · rw [if_neg c2]
      by_cases c3 : p0 ≤ 2
      · rw [if_pos c3]
        by_cases n0 : p0 = 0
        · rw [if_pos n0, if_pos n0]
          exact ⟨rfl, hR⟩
        · rw [if_neg n0, if_neg n0]
          by_cases n1 : p0 = 1
          · rw [if_pos n1, if_pos n1]
            exact ⟨rfl, hR⟩
          · rw [if_neg n1, if_neg n1]
            have n2 : p0 = 2 := by
              obtain ⟨k, hk, rfl⟩ := nI_of c2
              have a : nI k ≤ nI 2 := c3
              have b : ¬ nI k = nI 0 := n0
              have c : ¬ nI k = nI 1 := n1
              rw [nI_leI hk (by omega)] at a
              rw [nI_eq hk (by omega)] at b c
              have e : k = 2 := by omega
              rw [e]
              rfl
            rw [if_pos n2]
            exact ⟨rfl, hR⟩
      · have n0 : ¬ p0 = 0 := fun h => c3 (by rw [h]; decide)
        have n1 : ¬ p0 = 1 := fun h => c3 (by rw [h]; decide)
        have n2 : ¬ p0 = 2 := fun h => c3 (by rw [h]; decide)
        rw [if_neg c3, if_neg n0, if_neg n1, if_neg n2]
        exact ⟨rfl, hR⟩
end PR2
