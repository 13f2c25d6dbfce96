section PR9
theorem close_val {md : Nat → Int32} {sz : Int32} {bf mp ml : Nat → Int32} {ro : RowS} {z n : Nat} (h : FR ro sz bf z) (c2 : ¬ md 2 = 0) (h11 : md 11 = nI n) (h12 : md 12 = nI n) (hn1 : 1 ≤ n) (hn : n ≤ 512) (hfit : z + z % 2 + (if n = 1 then 0 else 8 * n) + 142 ≤ 65536) :
    M_Md_close md sz bf mp ml = L_Md_close_117 mp ml ((((upd md 0 0) 11).toInt - (0 : Int32).toInt).toNat + 1) (nI (z + z % 2)) 0 (upd md 0 0) (M_Md_start sz bf).1 (M_Md_start sz bf).2.2 ∧
    (GL_Md_close_117 mp ml ((((upd md 0 0) 11).toInt - (0 : Int32).toInt).toNat + 1) (nI (z + z % 2)) 0 (upd md 0 0) (M_Md_start sz bf).1 (M_Md_start sz bf).2.2 → G_Md_close md sz bf mp ml) := by
  have hz := h.2.1
  have er : sz - sz / 2 * 2 = nI (z % 2) := by rw [h.2.2.2.1]; exact pk_rem (d := 2) (by omega) (by omega) (by omega)
  have ey : sz + (sz - sz / 2 * 2) = nI (z + z % 2) := by rw [er, h.2.2.2.1, nI_add]
  have c3 : md 11 ≤ md 12 := by rw [h11, h12]; exact Int32.le_refl _
  have e16 : ∀ k : Nat, (nI k + 16) + 126 = nI (k + 142) := fun k => by
    have a : nI k + (16 : Int32) = nI (k + 16) := nI_add k 16
    have b : nI (k + 16) + (126 : Int32) = nI (k + 16 + 126) := nI_add (k + 16) 126
    rw [a, b]
  have hs : ∀ q : Nat, q ≤ 65536 → nI q ≤ (65536 : Int32) := fun q hq => nI_le (b := 65536) hq (by omega)
  have fin : (if (sz - sz / 2 * 2) = 1 then (let x := M_Md_one sz bf 0; L_Md_close_117 mp ml ((((upd md 0 0) 11).toInt - (0 : Int32).toInt).toNat + 1) (nI (z + z % 2)) 0 (upd md 0 0) x.1 x.2) else (L_Md_close_117 mp ml ((((upd md 0 0) 11).toInt - (0 : Int32).toInt).toNat + 1) (nI (z + z % 2)) 0 (upd md 0 0) sz bf)) = L_Md_close_117 mp ml ((((upd md 0 0) 11).toInt - (0 : Int32).toInt).toNat + 1) (nI (z + z % 2)) 0 (upd md 0 0) (M_Md_start sz bf).1 (M_Md_start sz bf).2.2 := by
    unfold M_Md_start
    split <;> rfl
  have fing : GL_Md_close_117 mp ml ((((upd md 0 0) 11).toInt - (0 : Int32).toInt).toNat + 1) (nI (z + z % 2)) 0 (upd md 0 0) (M_Md_start sz bf).1 (M_Md_start sz bf).2.2 → (if (sz - sz / 2 * 2) = 1 then ((G_Md_one sz) ∧ ∀ x, x = M_Md_one sz bf 0 → GL_Md_close_117 mp ml ((((upd md 0 0) 11).toInt - (0 : Int32).toInt).toNat + 1) (nI (z + z % 2)) 0 (upd md 0 0) x.1 x.2) else (GL_Md_close_117 mp ml ((((upd md 0 0) 11).toInt - (0 : Int32).toInt).toNat + 1) (nI (z + z % 2)) 0 (upd md 0 0) sz bf)) := by
    have hg := h.even.2.2
    unfold M_Md_start
    unfold G_Md_start at hg
    by_cases q : (sz - sz / 2 * 2) = 1
    · rw [if_pos q] at hg
      rw [if_pos q, if_pos q]
      intro t
      exact ⟨hg, fun x hx => by rw [hx]; exact t⟩
    · rw [if_neg q, if_neg q]
      exact id
  by_cases c1 : n = 1
  · rw [if_pos c1] at hfit
    have c4 : md 11 ≤ 1 := by rw [h11, c1]; decide
    have c5 : ((nI (z + z % 2) + 0) + 16) + 126 ≤ 65536 := by
      have a : nI (z + z % 2) + (0 : Int32) = nI (z + z % 2) := nI_add _ 0
      rw [a, e16]
      exact hs _ (by omega)
    refine ⟨?_, fun t => ?_⟩
    · unfold M_Md_close
      rw [if_neg c2, if_pos c3]
      (try dsimp only)
      rw [ey, if_pos c4, if_pos c5]
      exact fin
    · unfold G_Md_close
      rw [if_neg c2, if_pos c3]
      intro y hy
      rw [hy, ey, if_pos c4, if_pos c5]
      exact fing t
  · rw [if_neg c1] at hfit
    have c4 : ¬ md 11 ≤ 1 := by rw [h11]; exact nI_ge (a := 1) (by omega) (by omega)
    have e8 : (8 : Int32) * md 11 = nI (8 * n) := by rw [h11]; exact pk_mul 8 n
    have c5 : ((nI (z + z % 2) + nI (8 * n)) + 16) + 126 ≤ 65536 := by
      rw [nI_add, e16]
      exact hs _ (by omega)
    refine ⟨?_, fun t => ?_⟩
    · unfold M_Md_close
      rw [if_neg c2, if_pos c3]
      (try dsimp only)
      rw [ey, if_neg c4, e8, if_pos c5]
      exact fin
    · unfold G_Md_close
      rw [if_neg c2, if_pos c3]
      intro y hy
      rw [hy, ey, if_neg c4]
      intro y2 hy2
      rw [hy2, e8, if_pos c5]
      exact fing t
theorem close_bad {md : Nat → Int32} {sz : Int32} {bf mp ml : Nat → Int32} {ro : RowS} {z n : Nat} (h : FR ro sz bf z) (c2 : ¬ md 2 = 0) (h11 : md 11 = nI n) (h12 : md 12 = nI n) (hn1 : 1 ≤ n) (hn : n ≤ 512) (hfit : ¬ z + z % 2 + (if n = 1 then 0 else 8 * n) + 142 ≤ 65536) :
    M_Md_close md sz bf mp ml = (0, upd md 0 1, sz, bf) ∧ G_Md_close md sz bf mp ml := by
  have hz := h.2.1
  have er : sz - sz / 2 * 2 = nI (z % 2) := by rw [h.2.2.2.1]; exact pk_rem (d := 2) (by omega) (by omega) (by omega)
  have ey : sz + (sz - sz / 2 * 2) = nI (z + z % 2) := by rw [er, h.2.2.2.1, nI_add]
  have c3 : md 11 ≤ md 12 := by rw [h11, h12]; exact Int32.le_refl _
  have e16 : ∀ k : Nat, (nI k + 16) + 126 = nI (k + 142) := fun k => by
    have a : nI k + (16 : Int32) = nI (k + 16) := nI_add k 16
    have b : nI (k + 16) + (126 : Int32) = nI (k + 16 + 126) := nI_add (k + 16) 126
    rw [a, b]
  have hs : ∀ q : Nat, ¬ q ≤ 65536 → q < 2 ^ 31 → ¬ nI q ≤ (65536 : Int32) := fun q hq hq2 => nI_ge (a := 65536) (by omega) hq2
  by_cases c1 : n = 1
  · rw [if_pos c1] at hfit
    have c4 : md 11 ≤ 1 := by rw [h11, c1]; decide
    have c5 : ¬ ((nI (z + z % 2) + 0) + 16) + 126 ≤ 65536 := by
      have a : nI (z + z % 2) + (0 : Int32) = nI (z + z % 2) := nI_add _ 0
      rw [a, e16]
      exact hs _ (by omega) (by omega)
    refine ⟨?_, ?_⟩
    · unfold M_Md_close
      rw [if_neg c2, if_pos c3]
      (try dsimp only)
      rw [ey, if_pos c4, if_neg c5]
    · unfold G_Md_close
      rw [if_neg c2, if_pos c3]
      intro y hy
      rw [hy, ey, if_pos c4, if_neg c5]
      trivial
  · rw [if_neg c1] at hfit
    have c4 : ¬ md 11 ≤ 1 := by rw [h11]; exact nI_ge (a := 1) (by omega) (by omega)
    have e8 : (8 : Int32) * md 11 = nI (8 * n) := by rw [h11]; exact pk_mul 8 n
    have c5 : ¬ ((nI (z + z % 2) + nI (8 * n)) + 16) + 126 ≤ 65536 := by
      rw [nI_add, e16]
      exact hs _ (by omega) (by omega)
    refine ⟨?_, ?_⟩
    · unfold M_Md_close
      rw [if_neg c2, if_pos c3]
      (try dsimp only)
      rw [ey, if_neg c4, e8, if_neg c5]
    · unfold G_Md_close
      rw [if_neg c2, if_pos c3]
      intro y hy
      rw [hy, ey, if_neg c4]
      intro y2 hy2
      rw [hy2, e8, if_neg c5]
      trivial
/-- what the class's size would be -/
theorem swp {ro st : RowS} {sz : Int32} {bf : Nat → Int32} {z n : Nat} (h : FR ro sz bf z) (hs : st.2.2 = nI n) (hn1 : 1 ≤ n) (hn : n ≤ 512) : M_Mk_sizeWithPage ro st = nI (z + z % 2 + (if n = 1 then 0 else 8 * n) + 142) ∧ (M_Mk_hasLists st = 0 ↔ n = 1) := by
  have hz := h.2.1
  have er : ro.2.2 - ro.2.2 / 2 * 2 = nI (z % 2) := by rw [h.2.2.1]; exact pk_rem (d := 2) (by omega) (by omega) (by omega)
  have hl : M_Mk_hasLists st = 0 ↔ n = 1 := by
    unfold M_Mk_hasLists
    rw [hs]
    by_cases c : n = 1
    · have k : nI n < (2 : Int32) := nI_lt (b := 2) (by omega) (by omega)
      rw [if_pos k]
      exact ⟨fun _ => c, fun _ => rfl⟩
    · have k : ¬ nI n < (2 : Int32) := nI_nlt (b := 2) (by omega) (by omega)
      rw [if_neg k]
      exact ⟨fun q => absurd q (by decide), fun q => absurd q c⟩
  have e3 : ∀ k : Nat, ((nI k + 16) + 122) + 4 = nI (k + 142) := fun k => by
    have a : nI k + (16 : Int32) = nI (k + 16) := nI_add k 16
    have b : nI (k + 16) + (122 : Int32) = nI (k + 16 + 122) := nI_add (k + 16) 122
    have c : nI (k + 16 + 122) + (4 : Int32) = nI (k + 16 + 122 + 4) := nI_add (k + 16 + 122) 4
    rw [a, b, c]
  refine ⟨?_, hl⟩
  unfold M_Mk_sizeWithPage
  rw [er, h.2.2.1]
  by_cases c : n = 1
  · rw [if_pos (hl.mpr c), if_pos c]
    have a : (nI z + nI (z % 2)) + (0 : Int32) = nI (z + z % 2 + 0) := by rw [nI_add]; exact nI_add _ 0
    rw [a, e3]
  · rw [if_neg (fun q => c (hl.mp q)), if_neg c, hs]
    have a : (8 : Int32) * nI n = nI (8 * n) := pk_mul 8 n
    rw [a, nI_add, nI_add, e3]
set_option maxHeartbeats 1000000 in
theorem close_all {mk : Nat → Int32} {ro st : RowS} {md : Nat → Int32} {sz fr : Int32} {bf mp ml : Nat → Int32} {z : Nat} (hz : FR ro sz bf z) (hst : StOK 512 st) (hM : RelM mk st md sz fr mp ml) (ou : Nat → Int64) :
    (∃ x y, M_Md_close md sz bf mp ml = x ∧ M_Lw_close mk ro st ou = y ∧ (M_Md_thrown x.2.1) = y.1 ∧ (y.1 = 0 → lg_cmp (y.2.2.2.2 (0 : Int32).toNatClampNeg) x.1.toInt64 = 0) ∧ (∀ k, 14 ≤ k → x.2.1 k = md k) ∧ (∃ z', FR y.2.2.1 x.2.2.1 x.2.2.2 z') ∧ StOK 512 y.2.2.2.1 ∧ RelM y.2.1 y.2.2.2.1 x.2.1 x.2.2.1 fr mp ml) ∧ G_Md_close md sz bf mp ml := by
  obtain ⟨⟨m0, m1, m2, m3, m4, m5, m6, m7, m8, m9⟩, b1, b2, b3, b4, b5, b6, b7⟩ := id hM
  have hz2 := hz.2.1
  have no : T_PF_close mk ro st = 2 → M_Md_close md sz bf mp ml = (0, upd md 0 1, sz, bf) → G_Md_close md sz bf mp ml → (∃ x y, M_Md_close md sz bf mp ml = x ∧ M_Lw_close mk ro st ou = y ∧ (M_Md_thrown x.2.1) = y.1 ∧ (y.1 = 0 → lg_cmp (y.2.2.2.2 (0 : Int32).toNatClampNeg) x.1.toInt64 = 0) ∧ (∀ k, 14 ≤ k → x.2.1 k = md k) ∧ (∃ z', FR y.2.2.1 x.2.2.1 x.2.2.2 z') ∧ StOK 512 y.2.2.2.1 ∧ RelM y.2.1 y.2.2.2.1 x.2.1 x.2.2.1 fr mp ml) ∧ G_Md_close md sz bf mp ml := by
    intro h1 h2 h3
    have e : M_Lw_close mk ro st ou = (1, mk, ro, st, ou) := by unfold M_Lw_close; rw [h1, if_neg (by decide)]
    exact ⟨⟨_, _, h2, e, rfl, fun h => absurd h n10, fun k hk => pk_un (by omega), ⟨z, hz⟩, hst, hM⟩, h3⟩
  rcases b2 with c5 | c5
  · refine no ?_ ?_ ?_
    · unfold T_PF_close; rw [m1, if_pos c5]
    · unfold M_Md_close; rw [if_pos c5]
    · unfold G_Md_close; rw [if_pos c5]; trivial
  have c6 : ¬ md 2 = 0 := by rw [c5]; decide
  have c6' : ¬ mk 1 = 0 := by rw [m1]; exact c6
  obtain ⟨N, d, len, z0, q1, q2, q3, q4, q5, q6, q7, q8, q9, q10, q11, q12, q13, q14, q15⟩ := b7 c5
  have ez : z0 = z := by
    rw [hz.2.2.2.1, nI_eq (by omega) (by omega)] at q10
    exact q10.symm
  subst ez
  by_cases c7 : d = N
  · subst c7
    have t : ¬ 0 < M_Mk_stripsToCome mk st := by
      unfold M_Mk_stripsToCome
      rw [q4, q7, pk_sub (by omega), Nat.sub_self]
      decide
    obtain ⟨sw, hl⟩ := swp hz q7 q2 q3
    by_cases c8 : z0 + z0 % 2 + (if d = 1 then 0 else 8 * d) + 142 ≤ 65536
    · have hT : T_PF_close mk ro st = 0 := by
        unfold T_PF_close
        rw [if_neg c6', if_neg t, sw, if_pos (show nI (_ + 142) ≤ (65536 : Int32) from nI_le (b := 65536) c8 (by omega))]
      obtain ⟨v1, v2⟩ := close_val (mp := mp) (ml := ml) hz c6 q1 q5 q2 q3 c8
      obtain ⟨f1, f2, f3⟩ := hz.even
      obtain ⟨L, z1, l1, l2, l3, l4⟩ := b5 (b3 c5)
      have ez1 : z1 = z0 := by
        rw [hz.2.2.2.1, nI_eq (by omega) (by omega)] at l2
        exact l2.symm
      subst ez1
      have hb := hst.le
      have h2d : 2 * d ≤ st.1 := by
        obtain ⟨-, k, hk, hk2⟩ := hst
        rw [q7, nI_eq (by omega) (by omega)] at hk
        omega
      have hm2 : mk 2 = (upd md 0 0) 3 := m2
      -- the places of the lists, or of the one strip
      have key : ∃ (ro2 : RowS) (sz2 : Int32) (bf2 : Nat → Int32) (z2 : Nat) (a b : Int32), L_Md_close_117 mp ml ((((upd md 0 0) 11).toInt - (0 : Int32).toInt).toNat + 1) (nI (z1 + z1 % 2)) 0 (upd md 0 0) (M_Md_start sz bf).1 (M_Md_start sz bf).2.2 = K_Md_close_183 mp ml (nI (z1 + z1 % 2)) (upd md 0 0) sz2 bf2 ∧ (GK_Md_close_183 mp ml (nI (z1 + z1 % 2)) (upd md 0 0) sz2 bf2 → GL_Md_close_117 mp ml ((((upd md 0 0) 11).toInt - (0 : Int32).toInt).toNat + 1) (nI (z1 + z1 % 2)) 0 (upd md 0 0) (M_Md_start sz bf).1 (M_Md_start sz bf).2.2) ∧ FR ro2 sz2 bf2 z2 ∧ z1 ≤ z2 ∧ z2 + 142 ≤ 65536 ∧
          (((upd md 0 0) 11 ≤ 1 ∧ a = mp (0 : Int32).toNatClampNeg) ∨ (¬ (upd md 0 0) 11 ≤ 1 ∧ a = nI (z1 + z1 % 2))) ∧ (((upd md 0 0) 11 ≤ 1 ∧ b = ml (0 : Int32).toNatClampNeg) ∨ (¬ (upd md 0 0) 11 ≤ 1 ∧ b = nI (z1 + z1 % 2) + (4 * ((upd md 0 0) 11)))) ∧
          M_Mk_finishPage mk ro st = ((M_Mk_leavePage (upd (upd mk 3 (mk 3 + 1)) 4 ((M_Mk_addFineness mk (M_Mk_addFineness mk ro2 (mk 8)) (mk 9)).2.2 + 122)) st).1, M_Row_replaceLong (Dir mk (M_Mk_addFineness mk (M_Mk_addFineness mk ro2 (mk 8)) (mk 9)) (mk 5) (mk 6) (mk 7) st.2.2 a b sz2) (mk 4) (M_Mk_addFineness mk (M_Mk_addFineness mk ro2 (mk 8)) (mk 9)).2.2.toInt64 (mk 2), (M_Mk_leavePage (upd (upd mk 3 (mk 3 + 1)) 4 ((M_Mk_addFineness mk (M_Mk_addFineness mk ro2 (mk 8)) (mk 9)).2.2 + 122)) st).2) := by
        by_cases c1 : d = 1
        · rw [if_pos c1] at c8
          have e11 : (upd md 0 0) 11 = 1 := by show md 11 = 1; rw [q1, c1]; rfl
          have n0 : ¬ (upd md 0 0) 11 ≤ 0 := by rw [e11]; decide
          have n1 : (upd md 0 0) 11 ≤ 1 := by rw [e11]; decide
          refine ⟨M_Row_makeEven ro, (M_Md_start sz bf).1, (M_Md_start sz bf).2.2, z1 + z1 % 2, mp (0 : Int32).toNatClampNeg, ml (0 : Int32).toNatClampNeg, ?_, ?_, f1, by omega, by omega, Or.inl ⟨n1, rfl⟩, Or.inl ⟨n1, rfl⟩, ?_⟩
          · rw [L_Md_close_117, if_neg n0, if_pos n1, L_Md_close_151, if_neg n0, if_pos n1]
          · intro g
            rw [GL_Md_close_117, if_neg n0, if_pos n1, GL_Md_close_151, if_neg n0, if_pos n1]
            exact g
          · have h0 := q15 0 (by omega)
            have g0 : M_St_get st 0 0 = mp (0 : Int32).toNatClampNeg := by
              have := sget (st := st) (i := 0) (w := 0) (by omega) hb.2
              exact this.trans h0.1
            have g1 : M_St_get st 0 1 = ml (0 : Int32).toNatClampNeg := by
              have := sget (st := st) (i := 0) (w := 1) (by omega) hb.2
              exact this.trans h0.2
            have eS : (M_Row_makeEven ro).2.2 = (M_Md_start sz bf).1 := by rw [f1.2.2.1, f1.2.2.2.1]
            unfold M_Mk_finishPage
            (try dsimp only)
            rw [if_pos (hl.mpr c1), eS, dir_val (a := mp (0 : Int32).toNatClampNeg) (b := ml (0 : Int32).toNatClampNeg) (Or.inl ⟨hl.mpr c1, g0.symm, g1.symm⟩)]
        · rw [if_neg c1] at c8
          have e11 : (upd md 0 0) 11 = nI d := q1
          have n1 : ¬ (upd md 0 0) 11 ≤ 1 := by rw [e11]; exact nI_ge (a := 1) (by omega) (by omega)
          have e0 : (0 : Int32).toInt = 0 := by decide
          have eF : ((((upd md 0 0) 11).toInt - (0 : Int32).toInt).toNat + 1) = d + 1 := by rw [e11, nI_toInt (by omega), e0]; omega
          obtain ⟨sa, ba, a1, a2, a3⟩ := list1 (st := st) (mk := mk) (md := upd md 0 0) (mp := mp) (ml := ml) (v1 := nI (z1 + z1 % 2)) e11 (by omega) q3 hm2 q7 h2d hb.2 (fun j hj => (q15 j hj).1) d 0 (d + 1) (d + 1) _ _ _ _ (by omega) (by omega) (by omega) f1 (by omega)
          obtain ⟨sb, bb, b1', b2', b3'⟩ := list2 (st := st) (mk := mk) (md := upd md 0 0) (mp := mp) (ml := ml) (v1 := nI (z1 + z1 % 2)) e11 (by omega) q3 hm2 q7 h2d hb.2 (fun j hj => (q15 j hj).2) d 0 (d + 1) (d + 1) _ _ _ _ (by omega) (by omega) (by omega) a2 (by omega)
          have eL0 : M_Mk_addList mk (M_Row_makeEven ro) st 0 = L_Mk_addList mk st 0 (d + 1) (nI 0) (M_Row_makeEven ro) := by
            unfold M_Mk_addList
            rw [q7, nI_toInt (by omega), e0, show ((d : Int) - 0).toNat = d by omega]
            rfl
          have eL1 : ∀ r : RowS, M_Mk_addList mk r st 1 = L_Mk_addList mk st 1 (d + 1) (nI 0) r := by
            intro r
            unfold M_Mk_addList
            rw [q7, nI_toInt (by omega), e0, show ((d : Int) - 0).toNat = d by omega]
            rfl
          refine ⟨_, sb, bb, _, nI (z1 + z1 % 2), nI (z1 + z1 % 2) + (4 * ((upd md 0 0) 11)), ?_, ?_, b2', by omega, by omega, Or.inr ⟨n1, rfl⟩, Or.inr ⟨n1, rfl⟩, ?_⟩
          · rw [eF]
            refine a1.trans ?_
            rw [eF]
            exact b1'
          · intro g
            rw [eF]
            refine a3 ?_
            rw [eF]
            exact b3' g
          · have e11' : (4 : Int32) * ((upd md 0 0) 11) = 4 * st.2.2 := by rw [e11, q7]
            have eS : (M_Row_makeEven ro).2.2 = nI (z1 + z1 % 2) := f1.2.2.1
            unfold M_Mk_finishPage
            (try dsimp only)
            rw [if_neg (fun q => c1 (hl.mp q)), eL0, eL1, e11', eS, ← dir_val (p0 := nI (z1 + z1 % 2)) (Or.inr ⟨fun q => c1 (hl.mp q), rfl, rfl⟩)]
            have eB : (L_Mk_addList mk st 1 (d + 1) (nI 0) (L_Mk_addList mk st 0 (d + 1) (nI 0) (M_Row_makeEven ro))).2.2 = sb := by rw [b2'.2.2.1, b2'.2.2.2.1]
            rw [eB]
      obtain ⟨ro2, sz2, bf2, z2, a, b, k1, k2, k3, k4, k5, k6, k7, k8⟩ := key
      obtain ⟨⟨e1, w1, w2, w3⟩, w4, w5⟩ := k183 (mk := mk) (md := upd md 0 0) (mp := mp) (ml := ml) (L := L) k3 k5 hm2 l1 (by omega) k6 k7
      have p9 : (upd md 0 0) 9 = mk 8 := m8.symm
      have p10 : (upd md 0 0) 10 = mk 9 := m9.symm
      have p6 : (upd md 0 0) 6 = mk 5 := m5.symm
      have p7 : (upd md 0 0) 7 = mk 6 := m6.symm
      have p8 : (upd md 0 0) 8 = mk 7 := m7.symm
      have p11 : (upd md 0 0) 11 = st.2.2 := q1.trans q7.symm
      have p5 : (upd md 0 0) 5 = mk 4 := m4.symm
      rw [p9, p10, p6, p7, p8, p11, p5] at w3
      rw [p9, p10] at w4
      rw [w4] at k8
      rw [w4] at w3
      have eP : M_PF_close mk ro st = ((M_Mk_finishPage mk ro st).2.1.2.2, (M_Mk_finishPage mk ro st).1, (M_Mk_finishPage mk ro st).2.1, (M_Mk_finishPage mk ro st).2.2) := by
        unfold M_PF_close
        rw [if_neg c6', if_neg t, sw, if_pos (show nI (_ + 142) ≤ (65536 : Int32) from nI_le (b := 65536) c8 (by omega))]
      have eL : M_Lw_close mk ro st ou = (0, (M_Mk_finishPage mk ro st).1, (M_Mk_finishPage mk ro st).2.1, (M_Mk_finishPage mk ro st).2.2, vp_updL ou (0 : Int32).toNatClampNeg (M_Mk_finishPage mk ro st).2.1.2.2.toInt64) := by
        unfold M_Lw_close
        rw [hT, if_pos rfl, eP]
      rw [k8] at eL
      refine ⟨⟨_, _, v1.trans (k1.trans w1), eL, rfl, fun _ => out0 ou ?_, ?_, ⟨_, w3⟩, hst.z0, ?_⟩, v2 (k2 w5)⟩
      · show _ = e1.1.toInt64
        rw [w2]
        exact congrArg Int32.toInt64 w3.2.2.1
      · intro k hk
        show upd (upd (upd (upd md 0 0) 2 0) 4 ((upd md 0 0) 4 + 1)) 5 (nI (z2 + 138)) k = md k
        rw [pk_un (by omega), pk_un (by omega), pk_un (by omega), pk_un (by omega)]
      · obtain ⟨k, hk, hk40, hk39⟩ := b4
        have e122 : nI (z2 + 16) + (122 : Int32) = nI (z2 + 138) := nI_add (z2 + 16) 122
        refine ⟨⟨m0, rfl, m2, ?_, e122, m5, m6, m7, m8, m9⟩, b1, Or.inl rfl, fun q => absurd q n01, ?_, fun _ => ⟨z2 + 138, z2 + 142, rfl, w2, by omega, k5⟩, fun _ => ⟨rfl, rfl, rfl⟩, fun q => absurd q n01⟩
        · show mk 3 + 1 = md 4 + 1
          rw [m3]
        · refine ⟨k + 1, ?_, by have := hk39 c5; omega, fun q => absurd q n01⟩
          show md 4 + 1 = nI (k + 1)
          rw [hk, nI_1]
    · have hT : T_PF_close mk ro st = 2 := by
        unfold T_PF_close
        have k : ¬ nI (z0 + z0 % 2 + (if d = 1 then 0 else 8 * d) + 142) ≤ (65536 : Int32) := nI_ge (a := 65536) (by omega) (by split <;> omega)
        rw [if_neg c6', if_neg t, sw, if_neg k]
      obtain ⟨v1, v2⟩ := close_bad (mp := mp) (ml := ml) hz c6 q1 q5 q2 q3 c8
      exact no hT v1 v2
  · have t : 0 < M_Mk_stripsToCome mk st := by
      unfold M_Mk_stripsToCome
      rw [q4, q7, pk_sub (by omega)]
      exact nI_lt (a := 0) (by omega) (by omega)
    have e : ¬ md 11 ≤ md 12 := by
      rw [q1, q5]
      exact nI_ge (by omega) (by omega)
    refine no ?_ ?_ ?_
    · unfold T_PF_close; rw [if_neg c6', if_pos t]
    · unfold M_Md_close; rw [if_neg c6, if_neg e]
    · unfold G_Md_close; rw [if_neg c6, if_neg e]; trivial
theorem ag_close : AG_close := by
  intro mk ro st rd nu rs fs md sz fr bf mp ml mn mf sp sl hR ou
  obtain ⟨hro, hst, hrs, hF, hM, hRd⟩ := id hR
  obtain ⟨z, hz⟩ := FR.of hro hF
  obtain ⟨⟨x, y, e0, e0', e1, e2, e3, ⟨z', e4⟩, e5, e6⟩, -⟩ := close_all hz hst hM ou
  rw [e0, e0']
  exact ⟨e1, e2, e4.1, e5, hrs, e4.rel, e6, hRd.same e3⟩
theorem gr_Md_close : GR_close := by
  intro mk ro st rd nu rs fs md sz fr bf mp ml mn mf sp sl hR
  obtain ⟨hro, hst, hrs, hF, hM, hRd⟩ := id hR
  obtain ⟨z, hz⟩ := FR.of hro hF
  exact (close_all hz hst hM (fun _ => 0)).2
end PR9
