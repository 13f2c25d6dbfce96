section PR3
theorem n10 : ¬ (1 : Int32) = 0 := by decide
theorem n20 : ¬ (2 : Int32) = 0 := by decide
theorem n30 : ¬ (3 : Int32) = 0 := by decide
theorem n21 : ¬ (2 : Int32) = 1 := by decide
theorem n01 : ¬ (0 : Int32) = 1 := by decide
theorem ifT {c P : Prop} [Decidable c] (h : ¬ c → P) : if c then True else P := by
  by_cases q : c
  · rw [if_pos q]; trivial
  · rw [if_neg q]; exact h q
theorem ifF {c P : Prop} [Decidable c] (h : c → P) : if c then P else True := by
  by_cases q : c
  · rw [if_pos q]; exact h q
  · rw [if_neg q]; trivial
theorem ag_look : AG_look := by
  intro mk ro st rd nu rs fs md sz fr bf mp ml mn mf sp sl hR p0
  obtain ⟨hro, hst, hrs, hF, hM, hRd⟩ := id hR
  obtain ⟨z, hz⟩ := FR.of hro hF
  have es : ro.2.2 = sz := by rw [hz.2.2.1, hz.2.2.2.1]
  obtain ⟨⟨m0, m1, m2, m3, m4, m5, m6, m7, m8, m9⟩, b1, b2, b3, b4, b5, b6, b7⟩ := id hM
  obtain ⟨⟨r0, r1, -⟩, -⟩ := id hRd
  by_cases n0 : p0 = 0
  · subst n0
    exact ⟨es, hR⟩
  by_cases n1 : p0 = 1
  · subst n1
    have a : M_PF_look mk ro st rd 1 = if mk 0 = 0 then 0 else 1 := rfl
    have b : M_Md_look md sz 1 = if md 1 = 0 then (0, upd md 0 0) else (1, upd md 0 0) := rfl
    rw [a, b, m0]
    by_cases c : md 1 = 0
    · rw [if_pos c, if_pos c]; exact ⟨rfl, hR⟩
    · rw [if_neg c, if_neg c]; exact ⟨rfl, hR⟩
  by_cases n2 : p0 = 2
  · subst n2
    have a : M_PF_look mk ro st rd 2 = if mk 1 = 0 then 0 else 1 := rfl
    have b : M_Md_look md sz 2 = if md 2 = 0 then (0, upd md 0 0) else (1, upd md 0 0) := rfl
    rw [a, b, m1]
    by_cases c : md 2 = 0
    · rw [if_pos c, if_pos c]; exact ⟨rfl, hR⟩
    · rw [if_neg c, if_neg c]; exact ⟨rfl, hR⟩
  by_cases n3 : p0 = 3
  · subst n3
    exact ⟨m3, hR⟩
  by_cases n4 : p0 = 4
  · subst n4
    have a : M_PF_look mk ro st rd 4 = mk 10 - st.2.2 := rfl
    have b : M_Md_look md sz 4 = if md 2 = 0 then (0, upd md 0 0) else (md 11 - md 12, upd md 0 0) := rfl
    rw [a, b]
    rcases b2 with c | c
    · obtain ⟨q1, q2, -⟩ := b6 c
      rw [if_pos c, q1, q2]
      exact ⟨(by decide : (0 : Int32) - 0 = 0), hR⟩
    · obtain ⟨n, d, len, z', q1, -, -, q2, q3, -, q4, -⟩ := b7 c
      rw [if_neg (by rw [c]; decide), q1, q2, q3, q4]
      exact ⟨rfl, hR⟩
  by_cases n5 : p0 = 5
  · subst n5
    have a : M_PF_look mk ro st rd 5 = mk 11 := rfl
    have b : M_Md_look md sz 5 = if md 2 = 0 then (0, upd md 0 0) else (md 13, upd md 0 0) := rfl
    rw [a, b]
    rcases b2 with c | c
    · obtain ⟨-, -, q1⟩ := b6 c
      rw [if_pos c, q1]
      exact ⟨rfl, hR⟩
    · obtain ⟨n, d, len, z', -, -, -, -, -, -, -, q1, q2, -⟩ := b7 c
      rw [if_neg (by rw [c]; decide), q1, q2]
      exact ⟨rfl, hR⟩
  by_cases n6 : p0 = 6
  · subst n6
    exact ⟨r0, hR⟩
  by_cases n7 : p0 = 7
  · subst n7
    exact ⟨r1, hR⟩
  unfold M_PF_look M_Md_look
  rw [if_neg n0, if_neg n1, if_neg n2, if_neg n3, if_neg n4, if_neg n5, if_neg n6, if_neg n7]
  by_cases c : 4 ≤ p0
  · rw [if_pos c, if_neg n4, if_neg n5, if_neg n6, if_neg n7]
    exact ⟨rfl, hR⟩
  · rw [if_neg c, if_neg n0, if_neg n1, if_neg n2, if_neg n3]
    exact ⟨rfl, hR⟩
theorem out0 (ou : Nat → Int64) {x y : Int64} (h : x = y) : lg_cmp (vp_updL ou (0 : Int32).toNatClampNeg x (0 : Int32).toNatClampNeg) y = 0 := by
  rw [pk_uLs, h]
  exact (lg_cmp_eq _ _).mpr rfl
theorem ag_end : AG_end := by
  intro mk ro st rd nu rs fs md sz fr bf mp ml mn mf sp sl hR ou
  obtain ⟨hro, hst, hrs, hF, hM, hRd⟩ := id hR
  obtain ⟨⟨m0, m1, m2, m3, m4⟩, b1, b2, b3, b4, b5, b6, b7⟩ := id hM
  unfold M_Lw_end M_Md_end
  by_cases c1 : md 1 = 0
  · have t : T_PF_end mk = 2 := by unfold T_PF_end; rw [m0, if_pos c1]
    rw [t, if_neg n20, if_pos c1]
    exact ⟨rfl, fun h => absurd h n10, hR⟩
  · by_cases c2 : md 2 = 0
    · have t : T_PF_end mk = 0 := by unfold T_PF_end; rw [m0, m1, if_neg c1, if_pos c2]
      have c1' : ¬ mk 0 = 0 := fun q => c1 (m0.symm.trans q)
      have c2' : mk 1 = 0 := m1.trans c2
      have e : M_PF_end mk = (mk 3, upd mk 0 0) := by unfold M_PF_end; rw [if_neg c1', if_pos c2']
      rw [t, if_pos rfl, if_neg c1, if_pos c2, e]
      refine ⟨rfl, fun _ => out0 ou (congrArg Int32.toInt64 m3), hro, hst, hrs, hF, ?_, hRd⟩
      exact ⟨⟨rfl, m1, m2, m3, m4⟩, Or.inl rfl, b2, fun h => absurd (c2.symm.trans h) n01, b4, fun h => absurd h n01, b6, fun h => absurd (c2.symm.trans h) n01⟩
    · have t : T_PF_end mk = 2 := by unfold T_PF_end; rw [m0, m1, if_neg c1, if_neg c2]
      rw [t, if_neg n20, if_neg c1, if_neg c2]
      exact ⟨rfl, fun h => absurd h n10, hR⟩
-- begin
theorem nI_zero : (0 : Int32) = nI 0 := nI_0.symm
theorem startFile_all (mk : Nat → Int32) (ro st : RowS) (o : Int32) : M_Mk_startFile mk ro st o = (upd (upd (upd (upd (upd (upd (upd mk 0 1) 2 o) 3 0) 4 4) 1 0) 10 0) 11 0, M_Row_append (M_Row_append (M_Row_append (M_Row_append (ro.1, ro.2.1, 0) o.toInt64 1 o) o.toInt64 1 o) (42 : Int32).toInt64 2 o) (0 : Int32).toInt64 4 o, (st.1, st.2.1, 0)) := by
  have eo : (M_Mk_leavePage (upd (upd (upd (upd mk 0 1) 2 o) 3 0) 4 4) st).1 2 = o := rfl
  unfold M_Mk_startFile M_Mk_addLong M_Mk_addShort
  dsimp only
  rw [eo]
  unfold M_Mk_leavePage
  dsimp only
theorem startFile_val (mk : Nat → Int32) (ro st : RowS) (o : Int32) : (M_Mk_startFile mk ro st o).2.1 = M_Row_append (M_Row_append (M_Row_append (M_Row_append (ro.1, ro.2.1, 0) o.toInt64 1 o) o.toInt64 1 o) (42 : Int32).toInt64 2 o) (0 : Int32).toInt64 4 o := by
  rw [startFile_all]
theorem FR.zero {ro : RowS} {sz : Int32} {bf : Nat → Int32} {z : Nat} (h : FR ro sz bf z) : FR (ro.1, ro.2.1, 0) 0 bf 0 := by
  have := h.cut (Nat.zero_le z)
  rw [nI_0] at this
  exact this
theorem begin_core {ro : RowS} {sz : Int32} {bf : Nat → Int32} {z : Nat} (h : FR ro sz bf z) (mk : Nat → Int32) (st : RowS) (M : Nat → Int32) (o : Int32) (hM : M 3 = o) :
    ∀ x1, x1 = M_Md_one 0 bf o → ∀ x2, x2 = M_Md_one x1.1 x1.2 o → ∀ x3, x3 = M_Md_two M x2.1 x2.2 42 → ∀ x4, x4 = M_Md_four M x3.1 x3.2 0 →
      FR (M_Mk_startFile mk ro st o).2.1 x4.1 x4.2 8 ∧ G_Md_one 0 ∧ G_Md_one x1.1 ∧ G_Md_two M x2.1 x2.2 42 ∧ G_Md_four M x3.1 x3.2 0 := by
  intro x1 h1 x2 h2 x3 h3 x4 h4
  have f0 := h.zero
  have f1 : FR (M_Row_append (ro.1, ro.2.1, 0) o.toInt64 1 o) x1.1 x1.2 (0 + 1) := by
    rw [app1, h1]
    exact f0.add (by omega) (shr_0 o)
  have f2 : FR (M_Row_append (M_Row_append (ro.1, ro.2.1, 0) o.toInt64 1 o) o.toInt64 1 o) x2.1 x2.2 (0 + 1 + 1) := by
    rw [app1 _ _ o, h2]
    exact f1.add (by omega) (shr_0 o)
  have f3 := f2.two (by omega) M 42
  rw [← h3, hM] at f3
  have f4 := f3.1.four (by omega) M 0
  rw [← h4, hM] at f4
  rw [startFile_val]
  exact ⟨f4.1, f0.g1 (by omega), f1.g1 (by omega), f3.2, f4.2⟩
theorem order_cases (p : Int32) : (M_PF_isOrder p = 0 ∧ ¬ p = 73 ∧ ¬ p = 77) ∨ (M_PF_isOrder p = 1 ∧ (p = 73 ∨ p = 77)) := by
  unfold M_PF_isOrder
  by_cases c1 : p = 73
  · rw [if_pos c1]; exact Or.inr ⟨rfl, Or.inl c1⟩
  · by_cases c2 : p = 77
    · rw [if_neg c1, if_pos c2]; exact Or.inr ⟨rfl, Or.inr c2⟩
    · rw [if_neg c1, if_neg c2]; exact Or.inl ⟨rfl, c1, c2⟩
theorem begin_val {p : Int32} (h : p = 73 ∨ p = 77) (md : Nat → Int32) (sz : Int32) (bf : Nat → Int32) : ∃ x4, x4 = M_Md_four (upd (upd md 0 0) 3 p) (M_Md_two (upd (upd md 0 0) 3 p) (M_Md_one (M_Md_one 0 bf p).1 (M_Md_one 0 bf p).2 p).1 (M_Md_one (M_Md_one 0 bf p).1 (M_Md_one 0 bf p).2 p).2 42).1 (M_Md_two (upd (upd md 0 0) 3 p) (M_Md_one (M_Md_one 0 bf p).1 (M_Md_one 0 bf p).2 p).1 (M_Md_one (M_Md_one 0 bf p).1 (M_Md_one 0 bf p).2 p).2 42).2 0 ∧ M_Md_begin md sz bf p = (upd (upd (upd (upd (upd (upd md 0 0) 1 1) 2 0) 3 p) 4 0) 5 4, x4.1, x4.2) := by
  refine ⟨_, rfl, ?_⟩
  unfold M_Md_begin
  by_cases c : p = 73
  · rw [if_pos c]
  · rw [if_neg c, if_pos (h.resolve_left c)]
theorem ag_begin : AG_begin := by
  intro mk ro st rd nu rs fs md sz fr bf mp ml mn mf sp sl hR p0
  obtain ⟨hro, hst, hrs, hF, hM, hRd⟩ := id hR
  obtain ⟨z, hz⟩ := FR.of hro hF
  obtain ⟨⟨m0, m1, m2, m3, m4, m5, m6, m7, m8, m9⟩, b1, b2, b3, b4, b5, b6, b7⟩ := id hM
  rcases order_cases p0 with ⟨c, c1, c2⟩ | ⟨c, c1⟩
  · have t : T_PF_begin p0 = 1 := by unfold T_PF_begin; rw [if_pos c]
    unfold M_Lw_begin M_Md_begin
    rw [t, if_neg n10, if_neg c1, if_neg c2]
    exact ⟨rfl, trivial, hR⟩
  · have nc : ¬ M_PF_isOrder p0 = 0 := by rw [c]; decide
    have t : T_PF_begin p0 = 0 := by unfold T_PF_begin; rw [if_neg nc]
    have e : M_PF_begin mk ro st p0 = M_Mk_startFile mk ro st p0 := by unfold M_PF_begin; rw [if_neg nc]
    obtain ⟨x4, hx4, hB⟩ := begin_val c1 md sz bf
    obtain ⟨f, -⟩ := begin_core hz mk st (upd (upd md 0 0) 3 p0) p0 rfl _ rfl _ rfl _ rfl x4 hx4
    rw [startFile_val] at f
    unfold M_Lw_begin
    rw [t, if_pos rfl, e, hB, startFile_all]
    (try dsimp only)
    refine ⟨rfl, trivial, f.1, hst.z0, hrs, f.rel, ?_, hRd⟩
    exact ⟨⟨rfl, rfl, rfl, rfl, rfl, m5, m6, m7, m8, m9⟩, Or.inr rfl, Or.inl rfl, fun _ => rfl, ⟨0, rfl, by omega, fun _ => by omega⟩, fun _ => ⟨4, 8, rfl, f.2.2.2.1, by omega, by omega⟩, fun _ => ⟨rfl, rfl, rfl⟩, fun h => absurd h n01⟩
theorem gr_Md_begin : GR_begin := by
  intro mk ro st rd nu rs fs md sz fr bf mp ml mn mf sp sl hR p0
  obtain ⟨hro, hst, hrs, hF, hM, hRd⟩ := id hR
  obtain ⟨z, hz⟩ := FR.of hro hF
  have key : G_Md_one 0 ∧ ∀ x1, x1 = M_Md_one 0 bf p0 → (G_Md_one x1.1) ∧ ∀ x2, x2 = M_Md_one x1.1 x1.2 p0 → (G_Md_two (upd (upd md 0 0) 3 p0) x2.1 x2.2 42) ∧ ∀ x3, x3 = M_Md_two (upd (upd md 0 0) 3 p0) x2.1 x2.2 42 → (G_Md_four (upd (upd md 0 0) 3 p0) x3.1 x3.2 0) := by
    have k := begin_core hz mk st (upd (upd md 0 0) 3 p0) p0 rfl
    refine ⟨(k _ rfl _ rfl _ rfl _ rfl).2.1, fun x1 h1 => ⟨(k x1 h1 _ rfl _ rfl _ rfl).2.2.1, fun x2 h2 => ⟨(k x1 h1 x2 h2 _ rfl _ rfl).2.2.2.1, fun x3 h3 => (k x1 h1 x2 h2 x3 h3 _ rfl).2.2.2.2⟩⟩⟩
  unfold G_Md_begin
  by_cases c : p0 = 73
  · rw [if_pos c]; exact key
  · rw [if_neg c]
    by_cases c2 : p0 = 77
    · rw [if_pos c2]; exact key
    · rw [if_neg c2]; trivial
-- page
theorem strips_l {h r : Nat} (h1 : 1 ≤ r) (h2 : r ≤ 40000) (h3 : h ≤ 40000) : M_PF_stripsOf (lN h) (lN r) = lN ((h + r - 1) / r) := by
  unfold M_PF_stripsOf
  have c : 0 ≤ lg_cmp (lN r) 1 := by
    rw [lg_cmp_ge]
    exact (lN_le (a := 1) (by omega) (by omega)).mpr h1
  rw [if_pos c, lN_add]
  have e : lN (h + r) - 1 = lN (h + r - 1) := lN_sub (b := 1) (by omega)
  rw [e, pk_lDiv (by omega) (by omega) (by omega)]
theorem strips_i {h r : Nat} (h1 : 1 ≤ r) (h2 : r ≤ 40000) (h3 : h ≤ 40000) : ((nI h + nI r) - 1) / nI r = nI ((h + r - 1) / r) := by
  rw [nI_add]
  have e : nI (h + r) - 1 = nI (h + r - 1) := pk_sub (b := 1) (by omega)
  rw [e, pk_div (by omega) (by omega) (by omega)]
/-- what page() must not be given -/
def Bad (p0 p1 p2 p3 p4 : Int32) : Prop := p0 < 1 ∨ 20000 < p0 ∨ p1 < 1 ∨ 20000 < p1 ∨ p2 < 1 ∨ p1 < p2 ∨ p3 < 1 ∨ 10000 < p3 ∨ p4 < 1 ∨ 10000 < p4 ∨ ¬ ((p1 + p2) - 1) / p2 ≤ 512
theorem in_n {p : Int32} {n : Nat} (hn : n < 2 ^ 31) (h1 : ¬ p < 1) (h2 : ¬ nI n < p) : ∃ k, p = nI k ∧ 1 ≤ k ∧ k ≤ n := by
  obtain ⟨j, hj, rfl⟩ := nI_of (x := p) (fun h => h1 (by
    rw [i32_lt] at h ⊢
    have e0 : (0 : Int32).toInt = 0 := by decide
    have e1 : (1 : Int32).toInt = 1 := by decide
    omega))
  have a : ¬ nI j < nI 1 := h1
  rw [nI_ltI hj (by omega)] at a
  rw [nI_ltI hn hj] at h2
  exact ⟨j, rfl, by omega, by omega⟩
theorem w_iff (p : Int32) {n : Nat} (h : n < 2 ^ 31) : M_PF_isWithin p.toInt64 1 (lN n) = 0 ↔ p < 1 ∨ nI n < p := by
  rw [within_iff]
  exact or_congr (l_lt p (n := 1) (by omega)) (l_gt p h)
theorem bad_iff (p0 p1 p2 p3 p4 : Int32) : Bad p0 p1 p2 p3 p4 ↔ (M_PF_isSheet p0 p1 p2 = 0 ∨ M_PF_isFineness p3 = 0 ∨ M_PF_isFineness p4 = 0) := by
  have f3 : M_PF_isFineness p3 = 0 ↔ p3 < 1 ∨ 10000 < p3 := w_iff p3 (n := 10000) (by omega)
  have f4 : M_PF_isFineness p4 = 0 ↔ p4 < 1 ∨ 10000 < p4 := w_iff p4 (n := 10000) (by omega)
  have s0 : M_PF_isWithin p0.toInt64 1 20000 = 0 ↔ p0 < 1 ∨ 20000 < p0 := w_iff p0 (n := 20000) (by omega)
  have s1 : M_PF_isWithin p1.toInt64 1 20000 = 0 ↔ p1 < 1 ∨ 20000 < p1 := w_iff p1 (n := 20000) (by omega)
  have s2 : M_PF_isWithin p2.toInt64 1 p1.toInt64 = 0 ↔ p2 < 1 ∨ p1 < p2 := by
    rw [within_iff]
    refine or_congr (l_lt p2 (n := 1) (by omega)) ?_
    rw [i64_lt, i32_lt, Int32.toInt_toInt64, Int32.toInt_toInt64]
  have sh : M_PF_isSheet p0 p1 p2 = 0 ↔ p0 < 1 ∨ 20000 < p0 ∨ p1 < 1 ∨ 20000 < p1 ∨ p2 < 1 ∨ p1 < p2 ∨ ¬ ((p1 + p2) - 1) / p2 ≤ 512 := by
    unfold M_PF_isSheet
    by_cases a : M_PF_isWithin p0.toInt64 1 20000 = 0
    · rw [if_pos a]
      rw [s0] at a
      exact ⟨fun _ => by rcases a with a | a <;> simp [a], fun _ => rfl⟩
    · rw [if_neg a]
      rw [s0] at a
      by_cases b : M_PF_isWithin p1.toInt64 1 20000 = 0
      · rw [if_pos b]
        rw [s1] at b
        exact ⟨fun _ => by rcases b with b | b <;> simp [b], fun _ => rfl⟩
      · rw [if_neg b]
        rw [s1] at b
        by_cases c : M_PF_isWithin p2.toInt64 1 p1.toInt64 = 0
        · rw [if_pos c]
          rw [s2] at c
          exact ⟨fun _ => by rcases c with c | c <;> simp [c], fun _ => rfl⟩
        · rw [if_neg c]
          rw [s2] at c
          have b1 : ¬ p1 < 1 := fun h => b (Or.inl h)
          have b2 : ¬ nI 20000 < p1 := fun h => b (Or.inr h)
          have c1 : ¬ p2 < 1 := fun h => c (Or.inl h)
          have c2 : ¬ p1 < p2 := fun h => c (Or.inr h)
          obtain ⟨h, rfl, hh1, hh2⟩ := in_n (by omega) b1 b2
          obtain ⟨r, rfl, hr1, hr2⟩ := in_n (by omega) c1 c2
          have hd : (h + r - 1) / r ≤ h + r - 1 := Nat.div_le_self _ _
          rw [nI_l (by omega), nI_l (by omega), strips_l (by omega) (by omega) (by omega), strips_i (by omega) (by omega) (by omega)]
          have k1 : (0 < lg_cmp (lN ((h + r - 1) / r)) 512) ↔ 512 < (h + r - 1) / r := by
            rw [lg_cmp_gt]
            exact lN_lt (a := 512) (by omega) (by omega)
          have k2 : nI ((h + r - 1) / r) ≤ 512 ↔ (h + r - 1) / r ≤ 512 := nI_leI (b := 512) (by omega) (by omega)
          rw [k2]
          by_cases d : 512 < (h + r - 1) / r
          · rw [if_pos (k1.mpr d)]
            exact ⟨fun _ => by right; right; right; right; right; right; omega, fun _ => rfl⟩
          · rw [if_neg (fun q => d (k1.mp q))]
            refine ⟨fun q => absurd q (by decide), fun q => ?_⟩
            rcases q with q | q | q | q | q | q | q
            · exact absurd (Or.inl q) a
            · exact absurd (Or.inr q) a
            · exact absurd q b1
            · exact absurd q b2
            · exact absurd q c1
            · exact absurd q c2
            · exact absurd q (by omega)
  rw [sh, f3, f4]
  unfold Bad
  constructor
  · rintro (h | h | h | h | h | h | h | h | h | h | h) <;> simp [h]
  · rintro ((h | h | h | h | h | h | h) | (h | h) | (h | h)) <;> simp [h]
theorem page_bad {md : Nat → Int32} {p0 p1 p2 p3 p4 : Int32} (h1 : ¬ md 1 = 0) (h2 : md 2 = 0) (h3 : ¬ md 4 = 40) (h : Bad p0 p1 p2 p3 p4) : M_Md_page md p0 p1 p2 p3 p4 = (0, upd md 0 2) := by
  unfold M_Md_page
  rw [if_neg h1, if_pos h2, if_neg h3]
  unfold Bad at h
  by_cases a1 : p0 < 1
  · rw [if_pos a1]
  rw [if_neg a1]
  by_cases a2 : 20000 < p0
  · rw [if_pos a2]
  rw [if_neg a2]
  by_cases a3 : p1 < 1
  · rw [if_pos a3]
  rw [if_neg a3]
  by_cases a4 : 20000 < p1
  · rw [if_pos a4]
  rw [if_neg a4]
  by_cases a5 : p2 < 1
  · rw [if_pos a5]
  rw [if_neg a5]
  by_cases a6 : p1 < p2
  · rw [if_pos a6]
  rw [if_neg a6]
  by_cases a7 : p3 < 1
  · rw [if_pos a7]
  rw [if_neg a7]
  by_cases a8 : 10000 < p3
  · rw [if_pos a8]
  rw [if_neg a8]
  by_cases a9 : p4 < 1
  · rw [if_pos a9]
  rw [if_neg a9]
  by_cases a10 : 10000 < p4
  · rw [if_pos a10]
  rw [if_neg a10]
  (try dsimp only)
  rw [if_neg (by rcases h with h | h | h | h | h | h | h | h | h | h | h <;> first | exact h | contradiction)]
theorem page_good {md : Nat → Int32} {p0 p1 p2 p3 p4 : Int32} (h1 : ¬ md 1 = 0) (h2 : md 2 = 0) (h3 : ¬ md 4 = 40) (h : ¬ Bad p0 p1 p2 p3 p4) : M_Md_page md p0 p1 p2 p3 p4 = (((p1 + p2) - 1) / p2, upd (upd (upd (upd (upd (upd (upd (upd (upd (upd md 0 0) 2 1) 6 p0) 7 p1) 8 p2) 9 p3) 10 p4) 11 (((p1 + p2) - 1) / p2)) 12 0) 13 0) ∧ ∃ h r, p1 = nI h ∧ p2 = nI r ∧ 1 ≤ r ∧ r ≤ h ∧ h ≤ 20000 ∧ (h + r - 1) / r ≤ 512 := by
  unfold Bad at h
  simp only [not_or] at h
  obtain ⟨a1, a2, a3, a4, a5, a6, a7, a8, a9, a10, a11⟩ := h
  have a11 := Classical.not_not.mp a11
  refine ⟨?_, ?_⟩
  · unfold M_Md_page
    rw [if_neg h1, if_pos h2, if_neg h3, if_neg a1, if_neg a2, if_neg a3, if_neg a4, if_neg a5, if_neg a6, if_neg a7, if_neg a8, if_neg a9, if_neg a10]
    (try dsimp only)
    rw [if_pos a11]
  · obtain ⟨h, rfl, hh1, hh2⟩ := in_n (n := 20000) (by omega) a3 a4
    obtain ⟨r, rfl, hr1, hr2⟩ := in_n (by omega) a5 a6
    have hd : (h + r - 1) / r ≤ h + r - 1 := Nat.div_le_self _ _
    rw [strips_i (by omega) (by omega) (by omega)] at a11
    have k2 : nI ((h + r - 1) / r) ≤ 512 ↔ (h + r - 1) / r ≤ 512 := nI_leI (b := 512) (by omega) (by omega)
    exact ⟨h, r, rfl, rfl, hr1, hr2, hh2, k2.mp a11⟩
theorem ag_page : AG_page := by
  intro mk ro st rd nu rs fs md sz fr bf mp ml mn mf sp sl hR ou p0 p1 p2 p3 p4
  obtain ⟨hro, hst, hrs, hF, hM, hRd⟩ := id hR
  obtain ⟨z, hz⟩ := FR.of hro hF
  obtain ⟨⟨m0, m1, m2, m3, m4, m5, m6, m7, m8, m9⟩, b1, b2, b3, b4, b5, b6, b7⟩ := id hM
  by_cases c1 : md 1 = 0
  · have t : T_PF_page mk p0 p1 p2 p3 p4 = 2 := by unfold T_PF_page; rw [m0, if_pos c1]
    have e : M_Md_page md p0 p1 p2 p3 p4 = (0, upd md 0 1) := by unfold M_Md_page; rw [if_pos c1]
    unfold M_Lw_page
    rw [t, if_neg n20, if_neg n21, e]
    exact ⟨rfl, fun h => absurd h n10, hR⟩
  rcases b2 with c2 | c2
  · obtain ⟨k, hk, hk40, -⟩ := b4
    by_cases c3 : k = 40
    · have c4 : md 4 = 40 := by rw [hk, c3]; rfl
      have c5 : ¬ mk 3 < 40 := by rw [m3, c4]; decide
      have t : T_PF_page mk p0 p1 p2 p3 p4 = 2 := by unfold T_PF_page; rw [m0, m1, if_neg c1, if_pos c2, if_neg c5]
      have e : M_Md_page md p0 p1 p2 p3 p4 = (0, upd md 0 1) := by unfold M_Md_page; rw [if_neg c1, if_pos c2, if_pos c4]
      unfold M_Lw_page
      rw [t, if_neg n20, if_neg n21, e]
      exact ⟨rfl, fun h => absurd h n10, hR⟩
    · have c4 : ¬ md 4 = 40 := by
        rw [hk]
        show ¬ nI k = nI 40
        rw [nI_eq (by omega) (by omega)]
        exact c3
      have c5 : mk 3 < 40 := by
        rw [m3, hk]
        exact nI_lt (b := 40) (by omega) (by omega)
      by_cases c6 : Bad p0 p1 p2 p3 p4
      · have t : T_PF_page mk p0 p1 p2 p3 p4 = 1 := by
          unfold T_PF_page
          rw [m0, m1, if_neg c1, if_pos c2, if_pos c5]
          rcases (bad_iff p0 p1 p2 p3 p4).mp c6 with q | q | q
          · rw [if_pos q]
          · rw [if_pos q]; split <;> rfl
          · rw [if_pos q]; split <;> (try split) <;> rfl
        unfold M_Lw_page
        rw [t, if_neg n10, if_pos rfl, page_bad c1 c2 c4 c6]
        exact ⟨rfl, fun h => absurd h n20, hR⟩
      · have c7 := fun q => c6 ((bad_iff p0 p1 p2 p3 p4).mpr q)
        have q1 : ¬ M_PF_isSheet p0 p1 p2 = 0 := fun q => c7 (Or.inl q)
        have q2 : ¬ M_PF_isFineness p3 = 0 := fun q => c7 (Or.inr (Or.inl q))
        have q3 : ¬ M_PF_isFineness p4 = 0 := fun q => c7 (Or.inr (Or.inr q))
        have t : T_PF_page mk p0 p1 p2 p3 p4 = 0 := by
          unfold T_PF_page
          rw [m0, m1, if_neg c1, if_pos c2, if_pos c5, if_neg q1, if_neg q2, if_neg q3]
        have e : M_PF_page mk st p0 p1 p2 p3 p4 = (M_Mk_stripsToCome (M_Mk_startPage mk p0 p1 p2 p3 p4) st, M_Mk_startPage mk p0 p1 p2 p3 p4) := by
          unfold M_PF_page
          rw [m0, m1, if_neg c1, if_pos c2, if_pos c5, if_neg q1, if_neg q2, if_neg q3]
        obtain ⟨e2, h, r, rfl, rfl, hr1, hr2, hh2, hn⟩ := page_good c1 c2 c4 c6
        obtain ⟨s1, s2, s3⟩ := b6 c2
        have hd : (h + r - 1) / r ≤ h + r - 1 := Nat.div_le_self _ _
        have hd1 : 1 ≤ (h + r - 1) / r := (Nat.le_div_iff_mul_le (by omega)).mpr (by omega)
        have e3 : (M_PF_stripsOf (nI h).toInt64 (nI r).toInt64).toInt32 = nI ((h + r - 1) / r) := by
          rw [nI_l (by omega), nI_l (by omega), strips_l (by omega) (by omega) (by omega), lN_i]
        have e4 : M_Mk_startPage mk p0 (nI h) (nI r) p3 p4 = upd (upd (upd (upd (upd (upd (upd mk 1 1) 5 p0) 6 (nI h)) 7 (nI r)) 8 p3) 9 p4) 10 (nI ((h + r - 1) / r)) := by
          unfold M_Mk_startPage
          (try dsimp only)
          rw [e3]
        rw [strips_i (by omega) (by omega) (by omega)] at e2
        have hmk : md 1 = 1 := b1.resolve_left c1
        unfold M_Lw_page
        rw [t, if_pos rfl, e, e2, e4]
        refine ⟨rfl, fun _ => out0 ou ?_, hro, hst, hrs, hF, ?_, hRd⟩
        · show (nI ((h + r - 1) / r) - st.2.2).toInt64 = (nI ((h + r - 1) / r)).toInt64
          rw [s2, nI_zero, pk_sub (by omega)]
          rfl
        · refine ⟨⟨m0, rfl, m2, m3, m4, rfl, rfl, rfl, rfl, rfl⟩, b1, Or.inr rfl, fun _ => hmk, ⟨k, hk, hk40, fun _ => by omega⟩, b5, fun q => absurd q n10, fun _ => ⟨(h + r - 1) / r, 0, 0, z, rfl, hd1, hn, rfl, rfl, by omega, s2, rfl, s3, hz.2.2.2.1, by omega, hz.2.1, fun q => absurd q (by decide), fun _ => rfl, fun j hj => absurd hj (Nat.not_lt_zero j)⟩⟩
  · have c3 : ¬ md 2 = 0 := by rw [c2]; decide
    have t : T_PF_page mk p0 p1 p2 p3 p4 = 2 := by unfold T_PF_page; rw [m0, m1, if_neg c1, if_neg c3]
    have e : M_Md_page md p0 p1 p2 p3 p4 = (0, upd md 0 1) := by unfold M_Md_page; rw [if_neg c1, if_neg c3]
    unfold M_Lw_page
    rw [t, if_neg n20, if_neg n21, e]
    exact ⟨rfl, fun h => absurd h n10, hR⟩
theorem gr_Md_page : GR_page := by
  intro mk ro st rd nu rs fs md sz fr bf mp ml mn mf sp sl hR p0 p1 p2 p3 p4
  unfold G_Md_page
  have k : ¬ p2 < 1 → ¬ p2 = 0 := fun h q => h (by rw [q]; decide)
  exact ifT fun _ => ifF fun _ => ifT fun _ => ifT fun _ => ifT fun _ => ifT fun _ => ifT fun _ => ifT fun h => ifT fun _ => ifT fun _ => ifT fun _ => ifT fun _ => ifT fun _ => k h
end PR3
