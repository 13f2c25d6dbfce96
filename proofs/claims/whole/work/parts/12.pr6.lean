section PR6
theorem pn_get {nu : Nat → Int64} {p w : Nat} (hp : p < 40) (hw : w < 13) : M_Pn_get nu (nI p) (nI w) = nu (13 * p + w) := by
  have e : (nI p * 13) + nI w = nI (13 * p + w) := by
    have := pk_mul p 13
    have e13 : nI p * (13 : Int32) = nI (p * 13) := this
    rw [e13, nI_add, Nat.mul_comm]
  unfold M_Pn_get
  rw [e, if_neg (nI_pos (by omega)), if_neg (nI_ge (by omega) (by omega)), nI_clamp (by omega)]
theorem m13 (p w : Nat) : ((13 : Int32) * nI p) + nI w = nI (13 * p + w) := by
  have e13 : (13 : Int32) * nI p = nI (13 * p) := pk_mul 13 p
  rw [e13, nI_add]
/-- which pages there are -/
theorem page_cases {rd : Nat → Int32} {P : Nat} (h : rd 0 = nI P) (hP : P ≤ 40) (p0 : Int32) : (M_Rd_hasPage rd p0 = 0 ∧ (p0 < 0 ∨ (¬ p0 < 0 ∧ nI P ≤ p0))) ∨ (M_Rd_hasPage rd p0 = 1 ∧ ¬ p0 < 0 ∧ ¬ nI P ≤ p0 ∧ ∃ p, p < P ∧ p0 = nI p) := by
  unfold M_Rd_hasPage
  by_cases c1 : p0 < 0
  · rw [if_pos c1]; exact Or.inl ⟨rfl, Or.inl c1⟩
  · rw [if_neg c1, h]
    by_cases c2 : nI P ≤ p0
    · rw [if_pos c2]; exact Or.inl ⟨rfl, Or.inr ⟨c1, c2⟩⟩
    · rw [if_neg c2]
      obtain ⟨k, hk, rfl⟩ := nI_of c1
      have c3 := c2
      rw [nI_leI (by omega) hk] at c3
      exact Or.inr ⟨rfl, c1, c2, k, by omega, rfl⟩
theorem ag_of : AG_of := by
  intro mk ro st rd nu rs fs md sz fr bf mp ml mn mf sp sl hR ou p0 p1
  obtain ⟨hro, hst, hrs, hF, hM, hRd⟩ := id hR
  obtain ⟨⟨r0, -⟩, P, hP, hP40, hall⟩ := hRd
  have h0 : rd 0 = nI P := r0.trans hP
  have no : T_PF_of rd p0 p1 = 3 → M_Md_of md mn p0 p1 = (0, upd md 0 1) → (M_Md_thrown ((M_Md_of md mn p0 p1).2)) = (M_Lw_of rd nu ou p0 p1).1 ∧ ((M_Lw_of rd nu ou p0 p1).1 = 0 → lg_cmp (((M_Lw_of rd nu ou p0 p1).2) (0 : Int32).toNatClampNeg) (M_Md_of md mn p0 p1).1 = 0) ∧ Rel mk ro st rd nu rs fs ((M_Md_of md mn p0 p1).2) sz fr bf mp ml mn mf sp sl := by
    intro h1 h2
    have e : M_Lw_of rd nu ou p0 p1 = (1, ou) := by unfold M_Lw_of; rw [h1, if_neg (by decide)]
    rw [e, h2]
    exact ⟨rfl, fun h => absurd h n10, hR⟩
  rcases page_cases h0 hP40 p0 with ⟨c, c1⟩ | ⟨c, c1, c2, p, hp, rfl⟩
  · refine no (by unfold T_PF_of; rw [if_pos c]) ?_
    unfold M_Md_of
    rw [hP]
    rcases c1 with c1 | ⟨c1, c2⟩
    · rw [if_pos c1]
    · rw [if_neg c1, if_pos c2]
  have nc : ¬ M_Rd_hasPage rd (nI p) = 0 := by rw [c]; decide
  by_cases d1 : p1 < 0
  · refine no (by unfold T_PF_of; rw [if_neg nc, if_pos d1]) ?_
    unfold M_Md_of
    rw [hP, if_neg c1, if_neg c2, if_pos d1]
  by_cases d2 : 13 ≤ p1
  · have d3 : ¬ p1 < 13 := fun q => by rw [i32_lt] at q; rw [i32_le] at d2; omega
    refine no (by unfold T_PF_of; rw [if_neg nc, if_neg d1, if_neg d3]) ?_
    unfold M_Md_of
    rw [hP, if_neg c1, if_neg c2, if_neg d1, if_pos d2]
  have d3 : p1 < 13 := by rw [i32_le] at d2; rw [i32_lt]; omega
  obtain ⟨w, hw, rfl⟩ := nI_of d1
  have hw13 : w < 13 := by
    have q : nI w < nI 13 := d3
    rw [nI_ltI hw (by omega)] at q
    exact q
  have hT : T_PF_of rd (nI p) (nI w) = 0 := by unfold T_PF_of; rw [if_neg nc, if_neg d1, if_pos d3]
  have e : M_Lw_of rd nu ou (nI p) (nI w) = (0, vp_updL ou (0 : Int32).toNatClampNeg (nu (13 * p + w))) := by
    unfold M_Lw_of M_PF_of
    rw [hT, if_pos rfl, if_neg nc, if_neg d1, if_pos d3, pn_get (by omega) hw13]
  have e2 : M_Md_of md mn (nI p) (nI w) = (mn (13 * p + w), upd md 0 0) := by
    unfold M_Md_of
    rw [hP, if_neg c1, if_neg c2, if_neg d1, if_neg d2, m13, nI_clamp (by omega)]
  rw [e, e2]
  exact ⟨rfl, fun _ => out0 ou ((hall p hp).1 w hw13), hR⟩
theorem gr_Md_of : GR_of := by
  intro mk ro st rd nu rs fs md sz fr bf mp ml mn mf sp sl hR p0 p1
  obtain ⟨hro, hst, hrs, hF, hM, hRd⟩ := id hR
  obtain ⟨⟨r0, -⟩, P, hP, hP40, hall⟩ := hRd
  unfold G_Md_of
  rw [hP]
  by_cases c1 : p0 < 0
  · rw [if_pos c1]; trivial
  rw [if_neg c1]
  by_cases c2 : nI P ≤ p0
  · rw [if_pos c2]; trivial
  rw [if_neg c2]
  by_cases c3 : p1 < 0
  · rw [if_pos c3]; trivial
  rw [if_neg c3]
  by_cases c4 : 13 ≤ p1
  · rw [if_pos c4]; trivial
  rw [if_neg c4]
  obtain ⟨p, hp, rfl⟩ := nI_of c1
  obtain ⟨w, hw, rfl⟩ := nI_of c3
  rw [nI_leI (by omega) hp] at c2
  have q : ¬ nI 13 ≤ nI w := c4
  rw [nI_leI (by omega) hw] at q
  rw [m13]
  exact vp_in_nI (by omega) (by omega)
/-- which strips there are -/
theorem strip_cases {rd : Nat → Int32} {nu : Nat → Int64} {rs : RowS} {fs md : Nat → Int32} {mn : Nat → Int64} {mf sp sl : Nat → Int32} (hrs : StOK 8192 rs) (h : RelR rd nu rs fs md mn mf sp sl) (p0 p1 : Int32) :
    (M_Rd_hasStrip rd nu p0 p1 = 0 ∧ M_Md_isStrip md mn p0 p1 = 0 ∧ G_Md_isStrip md p0 p1) ∨ (M_Rd_hasStrip rd nu p0 p1 = 1 ∧ M_Md_isStrip md mn p0 p1 = 1 ∧ G_Md_isStrip md p0 p1 ∧ ∃ p i f a l, p < 40 ∧ p0 = nI p ∧ p1 = nI i ∧ mf p = nI f ∧ f + i < 8192 ∧ M_Rd_ofStrip rs fs p0 p1 0 = nI a ∧ M_Rd_ofStrip rs fs p0 p1 1 = nI l ∧ sp (f + i) = nI a ∧ sl (f + i) = nI l ∧ a + l ≤ 65536) := by
  have hb := hrs.le
  obtain ⟨⟨r0, -⟩, P, hP, hP40, hall⟩ := h
  have h0 : rd 0 = nI P := r0.trans hP
  rcases page_cases h0 hP40 p0 with ⟨c, c1⟩ | ⟨c, c1, c2, p, hp, rfl⟩
  · left
    unfold M_Rd_hasStrip M_Md_isStrip G_Md_isStrip
    rw [if_pos c, hP]
    rcases c1 with c1 | ⟨c1, c2⟩
    · rw [if_pos c1, if_pos c1]; exact ⟨rfl, rfl, trivial⟩
    · rw [if_neg c1, if_neg c1, if_pos c2, if_pos c2]; exact ⟨rfl, rfl, trivial⟩
  have nc : ¬ M_Rd_hasPage rd (nI p) = 0 := by rw [c]; decide
  have e6 : ((13 : Int32) * nI p) + 6 = nI (13 * p + 6) := m13 p 6
  have g6 : vp_in (nI (13 * p + 6)) 520 := vp_in_nI (by omega) (by omega)
  obtain ⟨hn, f, cn, hf1, hf2, hc, hfc, hfr, hst⟩ := hall p hp
  by_cases d1 : p1 < 0
  · left
    unfold M_Rd_hasStrip M_Md_isStrip G_Md_isStrip
    rw [if_neg nc, if_pos d1, hP, if_neg c1, if_neg c1, if_neg c2, if_neg c2, if_pos d1, if_pos d1]
    exact ⟨rfl, rfl, trivial⟩
  obtain ⟨i, hi, rfl⟩ := nI_of d1
  have hnu : M_Pn_get nu (nI p) 6 = lN cn := by
    have := pn_get (nu := nu) (p := p) (w := 6) (by omega) (by omega)
    rw [hn 6 (by omega), hc] at this
    exact this
  have hcmp : (0 ≤ lg_cmp (nI i).toInt64 (lN cn)) ↔ cn ≤ i := by
    rw [lg_cmp_ge, nI_l hi, lN_le (by omega) hi]
  by_cases d2 : cn ≤ i
  · left
    unfold M_Rd_hasStrip M_Md_isStrip G_Md_isStrip
    rw [if_neg nc, if_neg d1, hnu, if_pos (hcmp.mpr d2), hP, if_neg c1, if_neg c1, if_neg c2, if_neg c2, if_neg d1, if_neg d1, e6, nI_clamp (by omega), hc, if_pos (hcmp.mpr d2)]
    exact ⟨rfl, rfl, g6⟩
  right
  have d3 : ¬ 0 ≤ lg_cmp (nI i).toInt64 (lN cn) := fun q => d2 (hcmp.mp q)
  obtain ⟨a, l, s1, s2, s3, s4, s5⟩ := hst i (by omega)
  have sg : ∀ w, w < 2 → M_Rd_ofStrip rs fs (nI p) (nI i) (nI w) = rs.2.1 (2 * (f + i) + w) := by
    intro w hw
    have e2 : (2 : Int32) * (nI f + nI i) + nI w = nI (2 * (f + i) + w) := by
      have := pk_mul 2 (f + i)
      have e2 : (2 : Int32) * nI (f + i) = nI (2 * (f + i)) := this
      rw [nI_add, e2, nI_add]
    unfold M_Rd_ofStrip M_St_get
    rw [if_neg (nI_pos (by omega)), if_neg (nI_ge (by omega) (by omega)), nI_clamp (by omega), hf1, e2, if_neg (nI_pos (by omega)), if_neg (nI_ge (by omega) (by omega)), nI_clamp (by omega)]
  refine ⟨?_, ?_, ?_, p, i, f, a, l, by omega, rfl, rfl, hf2, by omega, ?_, ?_, s2, s4, s5⟩
  · unfold M_Rd_hasStrip
    rw [if_neg nc, if_neg d1, hnu, if_neg d3]
  · unfold M_Md_isStrip
    rw [hP, if_neg c1, if_neg c2, if_neg d1, e6, nI_clamp (by omega), hc, if_neg d3]
  · unfold G_Md_isStrip
    rw [hP, if_neg c1, if_neg c2, if_neg d1, e6]
    exact g6
  · exact (sg 0 (by omega)).trans s1
  · exact (sg 1 (by omega)).trans s3
theorem ag_where : AG_where := by
  intro mk ro st rd nu rs fs md sz fr bf mp ml mn mf sp sl hR ou p0 p1 p2
  obtain ⟨hro, hst, hrs, hF, hM, hRd⟩ := id hR
  have no : T_PF_where rd nu p0 p1 p2 = 3 → M_Md_where md mn mf sp sl p0 p1 p2 = (0, upd md 0 1) → (M_Md_thrown ((M_Md_where md mn mf sp sl p0 p1 p2).2)) = (M_Lw_where rd nu rs fs ou p0 p1 p2).1 ∧ ((M_Lw_where rd nu rs fs ou p0 p1 p2).1 = 0 → lg_cmp (((M_Lw_where rd nu rs fs ou p0 p1 p2).2) (0 : Int32).toNatClampNeg) (M_Md_where md mn mf sp sl p0 p1 p2).1.toInt64 = 0) ∧ Rel mk ro st rd nu rs fs ((M_Md_where md mn mf sp sl p0 p1 p2).2) sz fr bf mp ml mn mf sp sl := by
    intro h1 h2
    have e : M_Lw_where rd nu rs fs ou p0 p1 p2 = (1, ou) := by unfold M_Lw_where; rw [h1, if_neg (by decide)]
    rw [e, h2]
    exact ⟨rfl, fun h => absurd h n10, hR⟩
  rcases strip_cases hrs hRd p0 p1 with ⟨c1, c2, -⟩ | ⟨c1, c2, -, p, i, f, a, l, hp, rfl, rfl, hf, hfi, o0, o1, s0, s1, hal⟩
  · refine no (by unfold T_PF_where; rw [if_pos c1]) ?_
    unfold M_Md_where
    rw [if_pos c2]
  have n1 : ¬ M_Rd_hasStrip rd nu (nI p) (nI i) = 0 := by rw [c1]; decide
  have n2 : ¬ M_Md_isStrip md mn (nI p) (nI i) = 0 := by rw [c2]; decide
  have ef : (mf (nI p).toNatClampNeg) + nI i = nI (f + i) := by rw [nI_clamp (by omega), hf, nI_add]
  by_cases d0 : p2 = 0
  · subst d0
    have hT : T_PF_where rd nu (nI p) (nI i) 0 = 0 := by
      unfold T_PF_where
      rw [if_neg n1, if_neg (show ¬ (0 : Int32) < 0 by decide), if_pos (show (0 : Int32) ≤ 1 by decide)]
    have e : M_Lw_where rd nu rs fs ou (nI p) (nI i) 0 = (0, vp_updL ou (0 : Int32).toNatClampNeg (nI a).toInt64) := by
      unfold M_Lw_where M_PF_where
      rw [hT, if_pos rfl, if_neg n1, if_neg (show ¬ (0 : Int32) < 0 by decide), if_pos (show (0 : Int32) ≤ 1 by decide), o0]
    have e2 : M_Md_where md mn mf sp sl (nI p) (nI i) 0 = (nI a, upd md 0 0) := by
      unfold M_Md_where
      rw [if_neg n2, if_pos rfl, ef, nI_clamp (by omega), s0]
    rw [e, e2]
    exact ⟨rfl, fun _ => out0 ou rfl, hR⟩
  by_cases d1 : p2 = 1
  · subst d1
    have hT : T_PF_where rd nu (nI p) (nI i) 1 = 0 := by
      unfold T_PF_where
      rw [if_neg n1, if_neg (show ¬ (1 : Int32) < 0 by decide), if_pos (show (1 : Int32) ≤ 1 by decide)]
    have e : M_Lw_where rd nu rs fs ou (nI p) (nI i) 1 = (0, vp_updL ou (0 : Int32).toNatClampNeg (nI l).toInt64) := by
      unfold M_Lw_where M_PF_where
      rw [hT, if_pos rfl, if_neg n1, if_neg (show ¬ (1 : Int32) < 0 by decide), if_pos (show (1 : Int32) ≤ 1 by decide), o1]
    have e2 : M_Md_where md mn mf sp sl (nI p) (nI i) 1 = (nI l, upd md 0 0) := by
      unfold M_Md_where
      rw [if_neg n2, if_neg (show ¬ (1 : Int32) = 0 by decide), if_pos rfl, ef, nI_clamp (by omega), s1]
    rw [e, e2]
    exact ⟨rfl, fun _ => out0 ou rfl, hR⟩
  · refine no ?_ ?_
    · unfold T_PF_where
      rw [if_neg n1]
      by_cases d2 : p2 < 0
      · rw [if_pos d2]
      · rw [if_neg d2, if_neg]
        intro q
        obtain ⟨k, hk, rfl⟩ := nI_of d2
        have q2 : nI k ≤ nI 1 := q
        rw [nI_leI hk (by omega)] at q2
        have : k = 0 ∨ k = 1 := by omega
        rcases this with rfl | rfl
        · exact d0 nI_0
        · exact d1 rfl
    · unfold M_Md_where
      rw [if_neg n2, if_neg d0, if_neg d1]
theorem gr_Md_where : GR_where := by
  intro mk ro st rd nu rs fs md sz fr bf mp ml mn mf sp sl hR p0 p1 p2
  obtain ⟨hro, hst, hrs, hF, hM, hRd⟩ := id hR
  unfold G_Md_where
  rcases strip_cases hrs hRd p0 p1 with ⟨c1, c2, g⟩ | ⟨c1, c2, g, p, i, f, a, l, hp, rfl, rfl, hf, hfi, o0, o1, s0, s1, hal⟩
  · rw [if_pos c2]
    exact ⟨g, trivial⟩
  have n2 : ¬ M_Md_isStrip md mn (nI p) (nI i) = 0 := by rw [c2]; decide
  have ef : (mf (nI p).toNatClampNeg) + nI i = nI (f + i) := by rw [nI_clamp (by omega), hf, nI_add]
  have k : vp_in (nI p) 41 ∧ vp_in (nI (f + i)) 8192 := ⟨vp_in_nI (by omega) (by omega), vp_in_nI hfi (by omega)⟩
  rw [if_neg n2, ef]
  refine ⟨g, ?_⟩
  split
  · exact k
  · split
    · exact k
    · trivial
theorem ag_dots : AG_dots := by
  intro mk ro st rd nu rs fs md sz fr bf mp ml mn mf sp sl hR ou p0 p1 p2
  obtain ⟨hro, hst, hrs, hF, hM, hRd⟩ := id hR
  obtain ⟨z, hz⟩ := FR.of hro hF
  have hz2 := hz.2.1
  have es : ro.2.2 = sz := by rw [hz.2.2.1, hz.2.2.2.1]
  have no : T_PF_dots ro rd nu rs fs p0 p1 p2 = 3 → M_Md_dots md sz bf mn mf sp sl p0 p1 p2 = (0, upd md 0 1) → (M_Md_thrown ((M_Md_dots md sz bf mn mf sp sl p0 p1 p2).2)) = (M_Lw_dots ro rd nu rs fs ou p0 p1 p2).1 ∧ ((M_Lw_dots ro rd nu rs fs ou p0 p1 p2).1 = 0 → lg_cmp (((M_Lw_dots ro rd nu rs fs ou p0 p1 p2).2) (0 : Int32).toNatClampNeg) (M_Md_dots md sz bf mn mf sp sl p0 p1 p2).1.toInt64 = 0) ∧ Rel mk ro st rd nu rs fs ((M_Md_dots md sz bf mn mf sp sl p0 p1 p2).2) sz fr bf mp ml mn mf sp sl := by
    intro h1 h2
    have e : M_Lw_dots ro rd nu rs fs ou p0 p1 p2 = (1, ou) := by unfold M_Lw_dots; rw [h1, if_neg (by decide)]
    rw [e, h2]
    exact ⟨rfl, fun h => absurd h n10, hR⟩
  rcases strip_cases hrs hRd p0 p1 with ⟨c1, c2, -⟩ | ⟨c1, c2, -, p, i, f, a, l, hp, rfl, rfl, hf, hfi, o0, o1, s0, s1, hal⟩
  · refine no (by unfold T_PF_dots; rw [if_pos c1]) ?_
    unfold M_Md_dots
    rw [if_pos c2]
  have n1 : ¬ M_Rd_hasStrip rd nu (nI p) (nI i) = 0 := by rw [c1]; decide
  have n2 : ¬ M_Md_isStrip md mn (nI p) (nI i) = 0 := by rw [c2]; decide
  have ef : (mf (nI p).toNatClampNeg) + nI i = nI (f + i) := by rw [nI_clamp (by omega), hf, nI_add]
  by_cases d1 : p2 < 0
  · refine no (by unfold T_PF_dots; rw [if_neg n1, if_pos d1]) ?_
    unfold M_Md_dots
    rw [if_neg n2]
    (try dsimp only)
    rw [if_pos d1]
  obtain ⟨k, hk, rfl⟩ := nI_of d1
  by_cases d2 : l ≤ k
  · have q1 : ¬ nI k < nI l := nI_nlt d2 hk
    have q2 : nI l ≤ nI k := nI_le d2 hk
    refine no (by unfold T_PF_dots; rw [if_neg n1, if_neg d1, o1, if_neg q1]) ?_
    unfold M_Md_dots
    rw [if_neg n2]
    (try dsimp only)
    rw [if_neg d1, ef, nI_clamp (by omega), s1, if_pos q2]
  have q1 : nI k < nI l := nI_lt (by omega) (by omega)
  have q2 : ¬ nI l ≤ nI k := nI_ge (by omega) (by omega)
  by_cases d3 : z ≤ a + k
  · have q3 : ¬ nI a + nI k < sz := by rw [nI_add, hz.2.2.2.1]; exact nI_nlt d3 (by omega)
    have q4 : sz ≤ nI a + nI k := by rw [nI_add, hz.2.2.2.1]; exact nI_le d3 (by omega)
    refine no (by unfold T_PF_dots; rw [if_neg n1, if_neg d1, o1, if_pos q1, o0, es, if_neg q3]) ?_
    unfold M_Md_dots
    rw [if_neg n2]
    (try dsimp only)
    rw [if_neg d1, ef, nI_clamp (by omega), s1, if_neg q2, s0, if_pos q4]
  have q3 : nI a + nI k < sz := by rw [nI_add, hz.2.2.2.1]; exact nI_lt (by omega) (by omega)
  have q4 : ¬ sz ≤ nI a + nI k := by rw [nI_add, hz.2.2.2.1]; exact nI_ge (by omega) (by omega)
  have hT : T_PF_dots ro rd nu rs fs (nI p) (nI i) (nI k) = 0 := by unfold T_PF_dots; rw [if_neg n1, if_neg d1, o1, if_pos q1, o0, es, if_pos q3]
  have e : M_Lw_dots ro rd nu rs fs ou (nI p) (nI i) (nI k) = (0, vp_updL ou (0 : Int32).toNatClampNeg (nI (bv (bf (a + k)))).toInt64) := by
    unfold M_Lw_dots M_PF_dots
    rw [hT, if_pos rfl, if_neg n1, if_neg d1, o1, if_pos q1, o0, es, if_pos q3, nI_add, nI_l (by omega), at_in hz (by omega)]
  have e2 : M_Md_dots md sz bf mn mf sp sl (nI p) (nI i) (nI k) = (nI (bv (bf (a + k))), upd md 0 0) := by
    unfold M_Md_dots
    rw [if_neg n2]
    (try dsimp only)
    rw [if_neg d1, ef, nI_clamp (by omega), s1, if_neg q2, s0, if_neg q4, nI_add, mat_in (by omega)]
  rw [e, e2]
  exact ⟨rfl, fun _ => out0 ou rfl, hR⟩
theorem gr_Md_dots : GR_dots := by
  intro mk ro st rd nu rs fs md sz fr bf mp ml mn mf sp sl hR p0 p1 p2
  obtain ⟨hro, hst, hrs, hF, hM, hRd⟩ := id hR
  obtain ⟨z, hz⟩ := FR.of hro hF
  have hz2 := hz.2.1
  unfold G_Md_dots
  rcases strip_cases hrs hRd p0 p1 with ⟨c1, c2, g⟩ | ⟨c1, c2, g, p, i, f, a, l, hp, rfl, rfl, hf, hfi, o0, o1, s0, s1, hal⟩
  · rw [if_pos c2]
    exact ⟨g, trivial⟩
  have n2 : ¬ M_Md_isStrip md mn (nI p) (nI i) = 0 := by rw [c2]; decide
  have ef : (mf (nI p).toNatClampNeg) + nI i = nI (f + i) := by rw [nI_clamp (by omega), hf, nI_add]
  have k : vp_in (nI (f + i)) 8192 := vp_in_nI hfi (by omega)
  rw [if_neg n2]
  refine ⟨g, vp_in_nI (by omega) (by omega), fun y hy => ?_⟩
  rw [hy, ef, nI_clamp (by omega), s0, s1]
  by_cases d1 : p2 < 0
  · rw [if_pos d1]; trivial
  rw [if_neg d1]
  obtain ⟨kk, hk, rfl⟩ := nI_of d1
  refine ⟨k, ?_⟩
  by_cases d2 : nI l ≤ nI kk
  · rw [if_pos d2]; trivial
  rw [if_neg d2]
  rw [nI_leI (by omega) hk] at d2
  refine ⟨k, ?_⟩
  by_cases d3 : sz ≤ nI a + nI kk
  · rw [if_pos d3]; trivial
  rw [if_neg d3]
  refine ⟨k, ?_⟩
  rw [nI_add, hz.2.2.2.1, nI_leI (by omega) (by omega)] at d3
  show vp_in (nI a + nI kk) 65536
  rw [nI_add]
  exact vp_in_nI (by omega) (by omega)
end PR6
