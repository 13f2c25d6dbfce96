section PR4
/-- the size made even, on both sides -/
theorem FR.even {ro : RowS} {sz : Int32} {bf : Nat → Int32} {z : Nat} (h : FR ro sz bf z) : FR (M_Row_makeEven ro) (M_Md_start sz bf).1 (M_Md_start sz bf).2.2 (z + z % 2) ∧ (M_Md_start sz bf).2.1 = nI (z + z % 2) ∧ G_Md_start sz := by
  have hz := h.2.1
  have e1 : ro.2.2 - ro.2.2 / 2 * 2 = nI (z % 2) := by rw [h.2.2.1]; exact pk_rem (d := 2) (by omega) (by omega) (by omega)
  have e2 : sz - sz / 2 * 2 = nI (z % 2) := by rw [h.2.2.2.1]; exact pk_rem (d := 2) (by omega) (by omega) (by omega)
  unfold M_Row_makeEven M_Md_start G_Md_start
  rw [e1, e2]
  rcases Nat.mod_two_eq_zero_or_one z with q | q
  · rw [q, if_pos (show nI 0 = 0 from nI_0), if_neg (show ¬ nI 0 = 1 by decide), if_neg (show ¬ nI 0 = 1 by decide)]
    exact ⟨h, h.2.2.2.1, trivial⟩
  · rw [q, if_neg (show ¬ nI 1 = 0 by decide), if_pos (show nI 1 = 1 by decide), if_pos (show nI 1 = 1 by decide)]
    have a := h.add (v := 0) (w := 0) (by omega) rfl
    exact ⟨a, a.2.2.2.1, h.g1 (by omega)⟩
theorem put_loop {p : Int64} {p1 : Int32} {n : Nat} (hn : n ≤ 8) (md : Nat → Int32) (fr : Int32) : ∀ (r i f g : Nat) (ro : RowS) (sz : Int32) (bf : Nat → Int32) (z : Nat), i + r = n → r < f → r < g → FR ro sz bf z → z + r ≤ 65536 →
    ∃ sz' bf', L_Md_put p p1 g (nI r + (-1)) md sz fr bf = (1, upd md 13 (md 13 + p1), sz', fr, bf') ∧ FR (L_Row_append p (nI n) 77 f (nI i) ro) sz' bf' (z + r) ∧ GL_Md_put p p1 g (nI r + (-1)) md sz fr bf := by
  intro r
  induction r with
  | zero =>
    intro i f g ro sz bf z hi hf hg h hz
    obtain ⟨f, rfl⟩ : ∃ f', f = f' + 1 := ⟨f - 1, by omega⟩
    obtain ⟨g, rfl⟩ : ∃ g', g = g' + 1 := ⟨g - 1, by omega⟩
    have hi2 : i = n := by omega
    have e : (nI 0 + (-1)) < 0 := by decide
    rw [hi2, ap_end, L_Md_put, GL_Md_put, if_pos e, if_pos e]
    exact ⟨sz, bf, rfl, h, trivial⟩
  | succ r ih =>
    intro i f g ro sz bf z hi hf hg h hz
    obtain ⟨f, rfl⟩ : ∃ f', f = f' + 1 := ⟨f - 1, by omega⟩
    obtain ⟨g, rfl⟩ : ∃ g', g = g' + 1 := ⟨g - 1, by omega⟩
    have e0 : nI (r + 1) + (-1) = nI r := pk_m1 r
    have e : ¬ nI r < 0 := nI_pos (by omega)
    have hs : n - 1 - i = r := by omega
    have a := h.add (by omega) (byte_eq p r)
    rw [ap_go (by omega) (by omega), sh_be (by omega), hs, e0, L_Md_put, GL_Md_put, if_neg e, if_neg e]
    obtain ⟨sz', bf', b1, b2, b4⟩ := ih (i + 1) f g _ _ _ (z + 1) (by omega) (by omega) (by omega) a (by omega)
    have ez : z + (r + 1) = z + 1 + r := by omega
    rw [ez]
    exact ⟨sz', bf', b1, b2, h.g1 (by omega), fun x hx => by rw [hx]; exact b4⟩
theorem put_core {ro : RowS} {sz : Int32} {bf : Nat → Int32} {z n : Nat} (md : Nat → Int32) (fr : Int32) (p : Int64) (h : FR ro sz bf z) (hn : 1 ≤ n ∧ n ≤ 8) (hz : z + n ≤ 65536) :
    ∃ sz' bf', L_Md_put p (nI n) (((nI n - 1).toInt + 1).toNat + 1) (nI n - 1) md sz fr bf = (1, upd md 13 (md 13 + nI n), sz', fr, bf') ∧ FR (M_Row_append ro p (nI n) 77) sz' bf' (z + n) ∧ GL_Md_put p (nI n) (((nI n - 1).toInt + 1).toNat + 1) (nI n - 1) md sz fr bf := by
  have e1 : (nI n - 1).toInt = (n : Int) - 1 := by
    have := pk_sub_toInt (a := n) (b := 1) (by omega) (by omega)
    exact this
  have e0 : (0 : Int32).toInt = 0 := by decide
  rw [e1, nI_dec hn.1]
  have e2 : M_Row_append ro p (nI n) 77 = L_Row_append p (nI n) 77 (((nI n).toInt - (0 : Int32).toInt).toNat + 1) (nI 0) ro := rfl
  rw [e2, nI_toInt (by omega), e0]
  exact put_loop (p := p) (p1 := nI n) hn.2 md fr n 0 _ _ ro sz bf z (by omega) (by omega) (by omega) h hz
/-- put(), on both sides, where it is open: what both do -/
theorem put_all {mk : Nat → Int32} {ro st : RowS} {md : Nat → Int32} {sz fr : Int32} {bf mp ml : Nat → Int32} {z : Nat} (hz : FR ro sz bf z) (hM : RelM mk st md sz fr mp ml) (p0 : Int64) (p1 : Int32) :
    (∃ sz' fr' bf' x md', M_PF_put mk ro st p0 p1 = (x, (M_PF_put mk ro st p0 p1).2.1, (M_PF_put mk ro st p0 p1).2.2) ∧ M_Md_put md sz fr bf p0 p1 = (x, md', sz', fr', bf') ∧ (∀ k, 14 ≤ k → md' k = md k) ∧ (∃ z', FR (M_PF_put mk ro st p0 p1).2.2 sz' bf' z') ∧ RelM (M_PF_put mk ro st p0 p1).2.1 st md' sz' fr' mp ml) ∧ G_Md_put md sz fr bf p0 p1 := by
  obtain ⟨⟨m0, m1, m2, m3, m4, m5, m6, m7, m8, m9⟩, b1, b2, b3, b4, b5, b6, b7⟩ := id hM
  have es : ro.2.2 = sz := by rw [hz.2.2.1, hz.2.2.2.1]
  have no : M_PF_put mk ro st p0 p1 = (0, mk, ro) → M_Md_put md sz fr bf p0 p1 = (0, upd md 0 0, sz, fr, bf) → G_Md_put md sz fr bf p0 p1 → (∃ sz' fr' bf' x md', M_PF_put mk ro st p0 p1 = (x, (M_PF_put mk ro st p0 p1).2.1, (M_PF_put mk ro st p0 p1).2.2) ∧ M_Md_put md sz fr bf p0 p1 = (x, md', sz', fr', bf') ∧ (∀ k, 14 ≤ k → md' k = md k) ∧ (∃ z', FR (M_PF_put mk ro st p0 p1).2.2 sz' bf' z') ∧ RelM (M_PF_put mk ro st p0 p1).2.1 st md' sz' fr' mp ml) ∧ G_Md_put md sz fr bf p0 p1 := by
    intro h1 h2 h3
    refine ⟨⟨sz, fr, bf, 0, upd md 0 0, ?_, h2, fun k hk => pk_un (by omega), ?_, ?_⟩, h3⟩
    · rw [h1]
    · rw [h1]; exact ⟨z, hz⟩
    · rw [h1]; exact hM
  by_cases c2 : p1 < 1
  · refine no ?_ ?_ ?_
    · unfold M_PF_put; rw [if_pos ((part_iff p1).mpr (Or.inl c2))]
    · unfold M_Md_put; rw [if_pos c2]
    · unfold G_Md_put; rw [if_pos c2]; trivial
  by_cases c3 : 8 < p1
  · refine no ?_ ?_ ?_
    · unfold M_PF_put; rw [if_pos ((part_iff p1).mpr (Or.inr c3))]
    · unfold M_Md_put; rw [if_neg c2, if_pos c3]
    · unfold G_Md_put; rw [if_neg c2, if_pos c3]; trivial
  have c4 : ¬ M_PF_isPartLength p1 = 0 := fun h => ((part_iff p1).mp h).elim c2 c3
  rcases b2 with c5 | c5
  · obtain ⟨s1, s2, s3⟩ := b6 c5
    have t : M_Mk_stripsToCome mk st = 0 := by unfold M_Mk_stripsToCome; rw [s1, s2]; decide
    refine no ?_ ?_ ?_
    · unfold M_PF_put; rw [if_neg c4, if_pos t]
    · unfold M_Md_put; rw [if_neg c2, if_neg c3, if_pos c5]
    · unfold G_Md_put; rw [if_neg c2, if_neg c3, if_pos c5]; trivial
  have c6 : ¬ md 2 = 0 := by rw [c5]; decide
  obtain ⟨N, d, len, z0, q1, q2, q3, q4, q5, q6, q7, q8, q9, q10, q11, q12, q13, q14, q15⟩ := b7 c5
  have ez : z0 = z := by
    rw [hz.2.2.2.1, nI_eq (by have := hz.2.1; omega) (by omega)] at q10
    exact q10.symm
  subst ez
  have hz2 := hz.2.1
  by_cases c7 : d = N
  · have t : M_Mk_stripsToCome mk st = 0 := by unfold M_Mk_stripsToCome; rw [q4, q7, c7, pk_sub (by omega), Nat.sub_self]; exact nI_0
    have e : md 12 = md 11 := by rw [q5, q1, c7]
    refine no ?_ ?_ ?_
    · unfold M_PF_put; rw [if_neg c4, if_pos t]
    · unfold M_Md_put; rw [if_neg c2, if_neg c3, if_neg c6, if_pos e]
    · unfold G_Md_put; rw [if_neg c2, if_neg c3, if_neg c6, if_pos e]; trivial
  have t : ¬ M_Mk_stripsToCome mk st = 0 := by
    unfold M_Mk_stripsToCome
    rw [q4, q7, pk_sub (by omega)]
    exact nI_ne0 (by omega) (by omega)
  have e : ¬ md 12 = md 11 := by
    rw [q5, q1, nI_eq (by omega) (by omega)]
    exact c7
  obtain ⟨n, rfl, hn⟩ := part_n c2 c3
  have er : sz - sz / 2 * 2 = nI (z0 % 2) := by rw [hz.2.2.2.1]; exact pk_rem (d := 2) (by omega) (by omega) (by omega)
  by_cases c8 : len = 0
  · have c9 : mk 11 = 0 := by rw [q9, c8]; exact nI_0
    have c10 : md 13 = 0 := by rw [q8, c8]; exact nI_0
    have hsum : (sz + (sz - sz / 2 * 2)) + nI n = nI (z0 + z0 % 2 + n) := by rw [er, hz.2.2.2.1, nI_add, nI_add]
    by_cases c11 : z0 + z0 % 2 + n ≤ 60000
    · have k1 : ¬ M_Mk_hasRoomFor mk ro (nI n) = 0 := by
        unfold M_Mk_hasRoomFor
        rw [if_pos c9, es, hsum, if_neg (show ¬ (60000 : Int32) < nI (z0 + z0 % 2 + n) from fun h => by
          have h2 : nI 60000 < nI (z0 + z0 % 2 + n) := h
          rw [nI_ltI (by omega) (by omega)] at h2
          omega)]
        decide
      have k2 : nI (z0 + z0 % 2 + n) ≤ 60000 := nI_le (b := 60000) c11 (by omega)
      obtain ⟨f1, f2, f3⟩ := hz.even
      obtain ⟨sz', bf', g1, g2, g3⟩ := put_core (upd md 0 0) (M_Md_start sz bf).2.1 p0 f1 hn (by omega)
      have e1 : M_PF_put mk ro st p0 (nI n) = (1, upd mk 11 (mk 11 + nI n), M_Row_append (M_Row_makeEven ro) p0 (nI n) 77) := by
        unfold M_PF_put M_Mk_addToStrip
        rw [if_neg c4, if_neg t, if_neg k1, if_pos c9]
      have e2 : M_Md_put md sz fr bf p0 (nI n) = (1, upd (upd md 0 0) 13 (md 13 + nI n), sz', (M_Md_start sz bf).2.1, bf') := by
        unfold M_Md_put
        rw [if_neg c2, if_neg c3, if_neg c6, if_neg e, if_pos c10]
        (try dsimp only)
        rw [hsum, if_pos k2]
        exact g1
      refine ⟨⟨sz', (M_Md_start sz bf).2.1, bf', 1, _, ?_, e2, ?_, ?_, ?_⟩, ?_⟩
      · rw [e1]
      · intro k hk
        rw [pk_un (by omega), pk_un (by omega)]
      · rw [e1]; exact ⟨_, g2⟩
      · rw [e1]
        refine ⟨⟨m0, m1, m2, m3, m4, m5, m6, m7, m8, m9⟩, b1, Or.inr c5, b3, b4, fun _ => ?_, fun q => absurd q c6, fun _ => ?_⟩
        · obtain ⟨k, z1, l1, l2, l3, l4⟩ := b5 (b3 c5)
          have : z1 = z0 := by
            rw [hz.2.2.2.1, nI_eq (by omega) (by omega)] at l2
            exact l2.symm
          exact ⟨k, z0 + z0 % 2 + n, l1, g2.2.2.2.1, by omega, g2.2.1⟩
        · have em : md 13 + nI n = nI n := by rw [c10, nI_zero, nI_add, Nat.zero_add]
          have ek : mk 11 + nI n = nI n := by rw [c9, nI_zero, nI_add, Nat.zero_add]
          refine ⟨N, d, n, z0 + z0 % 2 + n, q1, q2, q3, q4, q5, q6, q7, em, ek, g2.2.2.2.1, by omega, g2.2.1, fun _ => ?_, fun h => absurd h c7, q15⟩
          rw [f2]
          exact congrArg nI (by omega)
      · unfold G_Md_put
        rw [if_neg c2, if_neg c3, if_neg c6, if_neg e, if_pos c10]
        intro y hy
        rw [hy, hsum, if_pos k2]
        refine ⟨f3, fun x hx y2 hy2 => ?_⟩
        rw [hx, hy2]
        exact g3
    · have k1 : M_Mk_hasRoomFor mk ro (nI n) = 0 := by
        unfold M_Mk_hasRoomFor
        rw [if_pos c9, es, hsum, if_pos (show (60000 : Int32) < nI (z0 + z0 % 2 + n) from nI_lt (a := 60000) (by omega) (by omega))]
      have k2 : ¬ nI (z0 + z0 % 2 + n) ≤ 60000 := nI_ge (a := 60000) (by omega) (by omega)
      refine no ?_ ?_ ?_
      · unfold M_PF_put; rw [if_neg c4, if_neg t, if_pos k1]
      · unfold M_Md_put
        rw [if_neg c2, if_neg c3, if_neg c6, if_neg e, if_pos c10]
        (try dsimp only)
        rw [hsum, if_neg k2]
      · unfold G_Md_put
        rw [if_neg c2, if_neg c3, if_neg c6, if_neg e, if_pos c10]
        intro y hy
        rw [hy, hsum, if_neg k2]
        trivial
  · have c9 : ¬ mk 11 = 0 := by rw [q9]; exact nI_ne0 (by omega) (by omega)
    have c10 : ¬ md 13 = 0 := by rw [q8]; exact nI_ne0 (by omega) (by omega)
    have hsum : (sz + 0) + nI n = nI (z0 + n) := by rw [hz.2.2.2.1, nI_zero, nI_add, nI_add, Nat.add_zero]
    by_cases c11 : z0 + n ≤ 60000
    · have k1 : ¬ M_Mk_hasRoomFor mk ro (nI n) = 0 := by
        unfold M_Mk_hasRoomFor
        rw [if_neg c9, es, hsum, if_neg (show ¬ (60000 : Int32) < nI (z0 + n) from fun h => by
          have h2 : nI 60000 < nI (z0 + n) := h
          rw [nI_ltI (by omega) (by omega)] at h2
          omega)]
        decide
      have k2 : nI (z0 + n) ≤ 60000 := nI_le (b := 60000) c11 (by omega)
      obtain ⟨sz', bf', g1, g2, g3⟩ := put_core (upd md 0 0) fr p0 hz hn (by omega)
      have e1 : M_PF_put mk ro st p0 (nI n) = (1, upd mk 11 (mk 11 + nI n), M_Row_append ro p0 (nI n) 77) := by
        unfold M_PF_put M_Mk_addToStrip
        rw [if_neg c4, if_neg t, if_neg k1, if_neg c9]
      have e2 : M_Md_put md sz fr bf p0 (nI n) = (1, upd (upd md 0 0) 13 (md 13 + nI n), sz', fr, bf') := by
        unfold M_Md_put
        rw [if_neg c2, if_neg c3, if_neg c6, if_neg e, if_neg c10]
        (try dsimp only)
        rw [hsum, if_pos k2]
        exact g1
      refine ⟨⟨sz', fr, bf', 1, _, ?_, e2, ?_, ?_, ?_⟩, ?_⟩
      · rw [e1]
      · intro k hk
        rw [pk_un (by omega), pk_un (by omega)]
      · rw [e1]; exact ⟨_, g2⟩
      · rw [e1]
        refine ⟨⟨m0, m1, m2, m3, m4, m5, m6, m7, m8, m9⟩, b1, Or.inr c5, b3, b4, fun _ => ?_, fun q => absurd q c6, fun _ => ?_⟩
        · obtain ⟨k, z1, l1, l2, l3, l4⟩ := b5 (b3 c5)
          have : z1 = z0 := by
            rw [hz.2.2.2.1, nI_eq (by omega) (by omega)] at l2
            exact l2.symm
          exact ⟨k, z0 + n, l1, g2.2.2.2.1, by omega, g2.2.1⟩
        · have em : md 13 + nI n = nI (len + n) := by rw [q8, nI_add]
          have ek : mk 11 + nI n = nI (len + n) := by rw [q9, nI_add]
          refine ⟨N, d, len + n, z0 + n, q1, q2, q3, q4, q5, q6, q7, em, ek, g2.2.2.2.1, by omega, g2.2.1, fun _ => ?_, fun h => absurd h c7, q15⟩
          rw [q13 (by omega)]
          exact congrArg nI (by omega)
      · unfold G_Md_put
        rw [if_neg c2, if_neg c3, if_neg c6, if_neg e, if_neg c10, hsum, if_pos k2]
        intro y hy
        rw [hy]
        exact g3
    · have k1 : M_Mk_hasRoomFor mk ro (nI n) = 0 := by
        unfold M_Mk_hasRoomFor
        rw [if_neg c9, es, hsum, if_pos (show (60000 : Int32) < nI (z0 + n) from nI_lt (a := 60000) (by omega) (by omega))]
      have k2 : ¬ nI (z0 + n) ≤ 60000 := nI_ge (a := 60000) (by omega) (by omega)
      refine no ?_ ?_ ?_
      · unfold M_PF_put; rw [if_neg c4, if_neg t, if_pos k1]
      · unfold M_Md_put
        rw [if_neg c2, if_neg c3, if_neg c6, if_neg e, if_neg c10, hsum, if_neg k2]
      · unfold G_Md_put
        rw [if_neg c2, if_neg c3, if_neg c6, if_neg e, if_neg c10, hsum, if_neg k2]
        trivial
theorem RelR.same {rd : Nat → Int32} {nu : Nat → Int64} {rs : RowS} {fs md md' : Nat → Int32} {mn : Nat → Int64} {mf sp sl : Nat → Int32} (h : RelR rd nu rs fs md mn mf sp sl) (e : ∀ k, 14 ≤ k → md' k = md k) : RelR rd nu rs fs md' mn mf sp sl := by
  unfold RelR at h ⊢
  rw [e 14 (by omega), e 15 (by omega), e 16 (by omega), e 17 (by omega), e 18 (by omega), e 19 (by omega)]
  exact h
theorem ag_put : AG_put := by
  intro mk ro st rd nu rs fs md sz fr bf mp ml mn mf sp sl hR p0 p1
  obtain ⟨hro, hst, hrs, hF, hM, hRd⟩ := id hR
  obtain ⟨z, hz⟩ := FR.of hro hF
  obtain ⟨⟨sz', fr', bf', x, md', e1, e2, e3, ⟨z', e4⟩, e5⟩, -⟩ := put_all hz hM p0 p1
  rw [e2]
  exact ⟨by rw [e1], e4.1, hst, hrs, e4.rel, e5, hRd.same e3⟩
theorem gr_Md_put : GR_put := by
  intro mk ro st rd nu rs fs md sz fr bf mp ml mn mf sp sl hR p0 p1
  obtain ⟨hro, hst, hrs, hF, hM, hRd⟩ := id hR
  obtain ⟨z, hz⟩ := FR.of hro hF
  exact (put_all hz hM p0 p1).2
-- strip
theorem st_add {mo : Int32} {M : Nat} {st : RowS} {d : Nat} (h : StOK mo st) (hM : mo = nI M) (hM2 : M ≤ 8192) (hd : st.2.2 = nI d) (hdM : d < M) (a b : Int32) :
    (M_St_add mo st a b).2.2 = nI (d + 1) ∧ (∀ j, j < 2 * d → (M_St_add mo st a b).2.1 j = st.2.1 j) ∧ (M_St_add mo st a b).2.1 (2 * d) = a ∧ (M_St_add mo st a b).2.1 (2 * d + 1) = b ∧ 2 * (d + 1) ≤ (M_St_add mo st a b).1 := by
  have hb := h.le
  have he := st_even h
  obtain ⟨k, hk, hkn⟩ := h.2
  have hkd : k = d := by
    rw [hk, nI_eq (by omega) (by omega)] at hd
    exact hd
  subst hkd
  have u1 : ∀ f : Nat → Int32, upd (upd f (2 * k) a) (2 * k + 1) b (2 * k) = a := fun f => by rw [pk_un (by omega), pk_us]
  have u2 : ∀ f : Nat → Int32, upd (upd f (2 * k) a) (2 * k + 1) b (2 * k + 1) = b := fun f => pk_us
  have u3 : ∀ (f : Nat → Int32) (j : Nat), j < 2 * k → upd (upd f (2 * k) a) (2 * k + 1) b j = f j := fun f j hj => by rw [pk_un (by omega), pk_un (by omega)]
  rcases Nat.lt_or_ge (2 * k) st.1 with q | q
  · rw [sadd_lt h hk q a b]
    exact ⟨rfl, fun j hj => u3 _ j hj, u1 _, u2 _, by show 2 * (k + 1) ≤ st.1; omega⟩
  · have e : 2 * k = st.1 := by omega
    have q2 : ¬ mo ≤ nI k := by rw [hM]; exact nI_ge hdM (by omega)
    rw [sadd_grow h hk e q2 a b]
    refine ⟨rfl, fun j hj => ?_, u1 _, u2 _, by show 2 * (k + 1) ≤ 2 * st.1; omega⟩
    show upd (upd (cpyN st.2.1 st.1 (nI (2 * st.1))) (2 * k) a) (2 * k + 1) b j = _
    rw [u3 _ j hj, cpyN_in (by omega) (by omega)]
theorem strip_all {mk : Nat → Int32} {ro st : RowS} {md : Nat → Int32} {sz fr : Int32} {bf mp ml : Nat → Int32} {z : Nat} (hz : FR ro sz bf z) (hst : StOK 512 st) (hM : RelM mk st md sz fr mp ml) (ou : Nat → Int64) :
    (∃ x, M_Md_strip md sz fr bf mp ml = x ∧ (M_Md_thrown x.2.1) = (M_Lw_strip mk ro st ou).1 ∧ ((M_Lw_strip mk ro st ou).1 = 0 → lg_cmp ((M_Lw_strip mk ro st ou).2.2.2.2 (0 : Int32).toNatClampNeg) x.1.toInt64 = 0) ∧ (∀ k, 14 ≤ k → x.2.1 k = md k) ∧ (∃ z', FR (M_Lw_strip mk ro st ou).2.2.1 x.2.2.1 x.2.2.2.2.1 z') ∧ StOK 512 (M_Lw_strip mk ro st ou).2.2.2.1 ∧ RelM (M_Lw_strip mk ro st ou).2.1 (M_Lw_strip mk ro st ou).2.2.2.1 x.2.1 x.2.2.1 x.2.2.2.1 x.2.2.2.2.2.1 x.2.2.2.2.2.2) ∧ G_Md_strip md sz bf := by
  obtain ⟨⟨m0, m1, m2, m3, m4, m5, m6, m7, m8, m9⟩, b1, b2, b3, b4, b5, b6, b7⟩ := id hM
  have es : ro.2.2 = sz := by rw [hz.2.2.1, hz.2.2.2.1]
  have no : T_PF_strip mk st = 2 → M_Md_strip md sz fr bf mp ml = (0, upd md 0 1, sz, fr, bf, mp, ml) → G_Md_strip md sz bf → (∃ x, M_Md_strip md sz fr bf mp ml = x ∧ (M_Md_thrown x.2.1) = (M_Lw_strip mk ro st ou).1 ∧ ((M_Lw_strip mk ro st ou).1 = 0 → lg_cmp ((M_Lw_strip mk ro st ou).2.2.2.2 (0 : Int32).toNatClampNeg) x.1.toInt64 = 0) ∧ (∀ k, 14 ≤ k → x.2.1 k = md k) ∧ (∃ z', FR (M_Lw_strip mk ro st ou).2.2.1 x.2.2.1 x.2.2.2.2.1 z') ∧ StOK 512 (M_Lw_strip mk ro st ou).2.2.2.1 ∧ RelM (M_Lw_strip mk ro st ou).2.1 (M_Lw_strip mk ro st ou).2.2.2.1 x.2.1 x.2.2.1 x.2.2.2.1 x.2.2.2.2.2.1 x.2.2.2.2.2.2) ∧ G_Md_strip md sz bf := by
    intro h1 h2 h3
    have e : M_Lw_strip mk ro st ou = (1, mk, ro, st, ou) := by unfold M_Lw_strip; rw [h1, if_neg (by decide)]
    rw [e]
    exact ⟨⟨_, h2, rfl, fun h => absurd h n10, fun k hk => pk_un (by omega), ⟨z, hz⟩, hst, hM⟩, h3⟩
  rcases b2 with c5 | c5
  · obtain ⟨s1, s2, s3⟩ := b6 c5
    have t : M_Mk_stripsToCome mk st = 0 := by unfold M_Mk_stripsToCome; rw [s1, s2]; decide
    refine no ?_ ?_ ?_
    · unfold T_PF_strip; rw [if_pos t]
    · unfold M_Md_strip; rw [if_pos c5]
    · unfold G_Md_strip; rw [if_pos c5]; trivial
  have c6 : ¬ md 2 = 0 := by rw [c5]; decide
  obtain ⟨N, d, len, z0, q1, q2, q3, q4, q5, q6, q7, q8, q9, q10, q11, q12, q13, q14, q15⟩ := b7 c5
  have ez : z0 = z := by
    rw [hz.2.2.2.1, nI_eq (by have := hz.2.1; omega) (by omega)] at q10
    exact q10.symm
  subst ez
  have hz2 := hz.2.1
  by_cases c7 : d = N
  · have t : M_Mk_stripsToCome mk st = 0 := by unfold M_Mk_stripsToCome; rw [q4, q7, c7, pk_sub (by omega), Nat.sub_self]; exact nI_0
    have e : md 12 = md 11 := by rw [q5, q1, c7]
    refine no ?_ ?_ ?_
    · unfold T_PF_strip; rw [if_pos t]
    · unfold M_Md_strip; rw [if_neg c6, if_pos e]
    · unfold G_Md_strip; rw [if_neg c6, if_pos e]; trivial
  have t : ¬ M_Mk_stripsToCome mk st = 0 := by
    unfold M_Mk_stripsToCome
    rw [q4, q7, pk_sub (by omega)]
    exact nI_ne0 (by omega) (by omega)
  have e : ¬ md 12 = md 11 := by
    rw [q5, q1, nI_eq (by omega) (by omega)]
    exact c7
  have hT : T_PF_strip mk st = 0 := by unfold T_PF_strip; rw [if_neg t]
  have hin : vp_in (md 12) 512 := by rw [q5]; exact vp_in_nI (by omega) (by omega)
  have hcl : (md 12).toNatClampNeg = d := by rw [q5]; exact nI_clamp (by omega)
  have hd1 : md 12 + 1 = nI (d + 1) := by rw [q5, nI_1]
  have fin : ∀ (ro2 : RowS) (sz2 : Int32) (bf2 : Nat → Int32) (fr2 : Int32) (z2 a l : Nat), FR ro2 sz2 bf2 z2 → z0 ≤ z2 → M_PF_strip mk ro st = (M_Mk_stripsToCome (upd mk 11 0) (M_St_add 512 st (nI a) (nI l)), upd mk 11 0, ro2, M_St_add 512 st (nI a) (nI l)) → fr2 = nI a → md 13 = nI l → M_Md_strip md sz fr bf mp ml = (md 11 - (md 12 + 1), upd (upd (upd md 0 0) 12 (md 12 + 1)) 13 0, sz2, fr2, bf2, upd mp (md 12).toNatClampNeg fr2, upd ml (md 12).toNatClampNeg (md 13)) → (∃ x, M_Md_strip md sz fr bf mp ml = x ∧ (M_Md_thrown x.2.1) = (M_Lw_strip mk ro st ou).1 ∧ ((M_Lw_strip mk ro st ou).1 = 0 → lg_cmp ((M_Lw_strip mk ro st ou).2.2.2.2 (0 : Int32).toNatClampNeg) x.1.toInt64 = 0) ∧ (∀ k, 14 ≤ k → x.2.1 k = md k) ∧ (∃ z', FR (M_Lw_strip mk ro st ou).2.2.1 x.2.2.1 x.2.2.2.2.1 z') ∧ StOK 512 (M_Lw_strip mk ro st ou).2.2.2.1 ∧ RelM (M_Lw_strip mk ro st ou).2.1 (M_Lw_strip mk ro st ou).2.2.2.1 x.2.1 x.2.2.1 x.2.2.2.1 x.2.2.2.2.2.1 x.2.2.2.2.2.2) := by
    intro ro2 sz2 bf2 fr2 z2 a l h2 hzz hA hfr hl hB
    obtain ⟨s1, s2, s3, s4, s5⟩ := st_add hst (M := 512) rfl (by omega) q7 (by omega) (nI a) (nI l)
    have hL : M_Lw_strip mk ro st ou = (0, upd mk 11 0, ro2, M_St_add 512 st (nI a) (nI l), vp_updL ou (0 : Int32).toNatClampNeg (M_Mk_stripsToCome (upd mk 11 0) (M_St_add 512 st (nI a) (nI l))).toInt64) := by
      unfold M_Lw_strip
      rw [hT, if_pos rfl, hA]
    have hk : M_Mk_stripsToCome (upd mk 11 0) (M_St_add 512 st (nI a) (nI l)) = nI (N - (d + 1)) := by
      unfold M_Mk_stripsToCome
      rw [s1, pk_un (by omega), q4, pk_sub (by omega)]
    have hk2 : md 11 - (md 12 + 1) = nI (N - (d + 1)) := by rw [q1, hd1, pk_sub (by omega)]
    rw [hL]
    refine ⟨_, hB, rfl, fun _ => out0 ou ?_, ?_, ⟨z2, h2⟩, ok_St_add hst _ _, ?_⟩
    · rw [hk]
      show (nI (N - (d + 1))).toInt64 = (md 11 - (md 12 + 1)).toInt64
      rw [hk2]
    · intro k hk
      show upd (upd (upd md 0 0) 12 (md 12 + 1)) 13 0 k = md k
      rw [pk_un (by omega), pk_un (by omega), pk_un (by omega)]
    · refine ⟨⟨m0, m1, m2, m3, m4, m5, m6, m7, m8, m9⟩, b1, Or.inr c5, b3, b4, fun _ => ?_, fun q => absurd q c6, fun _ => ?_⟩
      · obtain ⟨k, z1, l1, l2, l3, l4⟩ := b5 (b3 c5)
        have : z1 = z0 := by
          rw [hz.2.2.2.1, nI_eq (by omega) (by omega)] at l2
          exact l2.symm
        exact ⟨k, z2, l1, h2.2.2.2.1, by omega, h2.2.1⟩
      · refine ⟨N, d + 1, 0, z2, q1, q2, q3, q4, hd1, by omega, s1, rfl, rfl, h2.2.2.2.1, by omega, h2.2.1, fun h => absurd h (Nat.lt_irrefl 0), fun _ => rfl, fun j hj => ?_⟩
        rw [hcl]
        show (M_St_add 512 st (nI a) (nI l)).2.1 (2 * j) = upd mp d fr2 j ∧ (M_St_add 512 st (nI a) (nI l)).2.1 (2 * j + 1) = upd ml d (md 13) j
        by_cases ej : j = d
        · rw [ej, pk_us, pk_us, hfr, hl]
          exact ⟨s3, s4⟩
        · rw [pk_un ej, pk_un ej, s2 _ (by omega), s2 _ (by omega)]
          exact q15 j (by omega)
  by_cases c8 : len = 0
  · have c9 : mk 11 = 0 := by rw [q9, c8]; exact nI_0
    have c10 : md 13 = 0 := by rw [q8, c8]; exact nI_0
    obtain ⟨f1, f2, f3⟩ := hz.even
    refine ⟨?_, ?_⟩
    · refine fin (M_Row_makeEven ro) (M_Md_start sz bf).1 (M_Md_start sz bf).2.2 (M_Md_start sz bf).2.1 (z0 + z0 % 2) (z0 + z0 % 2) 0 f1 (by omega) ?_ f2 (by rw [c10]; exact nI_zero) ?_
      · unfold M_PF_strip M_Mk_finishStrip
        rw [if_neg t, if_pos c9]
        (try dsimp only)
        rw [c9, f1.2.2.1, nI_zero, pk_sub (by omega), Nat.sub_zero]
      · unfold M_Md_strip
        rw [if_neg c6, if_neg e, if_pos c10]
    · unfold G_Md_strip
      rw [if_neg c6, if_neg e, if_pos c10]
      exact ⟨f3, fun _ _ => ⟨hin, hin⟩⟩
  · have c9 : ¬ mk 11 = 0 := by rw [q9]; exact nI_ne0 (by omega) (by omega)
    have c10 : ¬ md 13 = 0 := by rw [q8]; exact nI_ne0 (by omega) (by omega)
    refine ⟨?_, ?_⟩
    · refine fin ro sz bf fr z0 (z0 - len) len hz (by omega) ?_ (q13 (by omega)) q8 ?_
      · unfold M_PF_strip M_Mk_finishStrip
        rw [if_neg t, if_neg c9]
        (try dsimp only)
        rw [q9, hz.2.2.1, pk_sub (by omega)]
      · unfold M_Md_strip
        rw [if_neg c6, if_neg e, if_neg c10]
    · unfold G_Md_strip
      rw [if_neg c6, if_neg e, if_neg c10]
      exact ⟨hin, hin⟩
theorem ag_strip : AG_strip := by
  intro mk ro st rd nu rs fs md sz fr bf mp ml mn mf sp sl hR ou
  obtain ⟨hro, hst, hrs, hF, hM, hRd⟩ := id hR
  obtain ⟨z, hz⟩ := FR.of hro hF
  obtain ⟨⟨x, e0, e1, e2, e3, ⟨z', e4⟩, e5, e6⟩, -⟩ := strip_all hz hst hM ou
  rw [e0]
  exact ⟨e1, e2, e4.1, e5, hrs, e4.rel, e6, hRd.same e3⟩
theorem gr_Md_strip : GR_strip := by
  intro mk ro st rd nu rs fs md sz fr bf mp ml mn mf sp sl hR
  obtain ⟨hro, hst, hrs, hF, hM, hRd⟩ := id hR
  obtain ⟨z, hz⟩ := FR.of hro hF
  exact (strip_all hz hst hM (fun _ => 0)).2
end PR4
