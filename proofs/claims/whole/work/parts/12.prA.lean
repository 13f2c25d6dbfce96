section PRA
/-- two bytes, four bytes, in the order o -/
def r2 (o : Int32) (bf : Nat → Int32) (m : Nat) : Nat := if o = 77 then bv (bf m) * 256 + bv (bf (m + 1)) else bv (bf m) + bv (bf (m + 1)) * 256
def r4 (o : Int32) (bf : Nat → Int32) (m : Nat) : Nat := if o = 77 then r2 o bf m * 65536 + r2 o bf (m + 2) else r2 o bf m + r2 o bf (m + 2) * 65536
theorem r2_lt (o : Int32) (bf : Nat → Int32) (m : Nat) : r2 o bf m < 65536 := by
  have a := bv_lt (bf m)
  have b := bv_lt (bf (m + 1))
  unfold r2
  split <;> omega
theorem r4_lt (o : Int32) (bf : Nat → Int32) (m : Nat) : r4 o bf m < 4294967296 := by
  have a := r2_lt o bf m
  have b := r2_lt o bf (m + 2)
  unfold r4
  split <;> omega
theorem mr2 (md bf : Nat → Int32) {m : Nat} (hm : m + 2 ≤ 2 ^ 31) : M_Md_readTwo md bf (nI m) = nI (r2 (md 14) bf m) := by
  have a := bv_lt (bf m)
  have b := bv_lt (bf (m + 1))
  have e256 : ∀ k : Nat, (256 : Int32) * nI k = nI (256 * k) := fun k => pk_mul 256 k
  unfold M_Md_readTwo r2
  rw [nI_1, mat_in (by omega), mat_in (by omega), e256, e256, nI_add, nI_add]
  by_cases ho : md 14 = 77
  · rw [if_pos ho, if_pos ho, Nat.mul_comm]
  · rw [if_neg ho, if_neg ho, Nat.mul_comm 256]
theorem mr4 (md bf : Nat → Int32) {m : Nat} (hm : m + 4 ≤ 2 ^ 31) : M_Md_readFour md bf (nI m) = lN (r4 (md 14) bf m) := by
  have a := r2_lt (md 14) bf m
  have b := r2_lt (md 14) bf (m + 2)
  have e2 : nI m + (2 : Int32) = nI (m + 2) := nI_add m 2
  have e6 : ∀ k : Nat, (65536 : Int64) * lN k = lN (65536 * k) := fun k => lN_mul 65536 k
  unfold M_Md_readFour r4
  (try dsimp only)
  rw [e2, mr2 md bf (by omega), mr2 md bf (by omega), nI_l (by omega), nI_l (by omega), e6, e6, lN_add, lN_add]
  by_cases ho : md 14 = 77
  · rw [if_pos ho, if_pos ho, Nat.mul_comm]
  · rw [if_neg ho, if_neg ho, Nat.mul_comm 65536]
theorem g2 (md : Nat → Int32) {m : Nat} (hm : m + 2 ≤ 65536) : G_Md_readTwo md (nI m) := by
  have k : G_Md_at (nI m) ∧ G_Md_at (nI m + 1) := ⟨vp_in_nI (by omega) (by omega), by rw [nI_1]; exact vp_in_nI (by omega) (by omega)⟩
  unfold G_Md_readTwo
  split
  · exact k
  · exact k
theorem g4 (md bf : Nat → Int32) {m : Nat} (hm : m + 4 ≤ 65536) : G_Md_readFour md bf (nI m) := by
  have e2 : nI m + (2 : Int32) = nI (m + 2) := nI_add m 2
  unfold G_Md_readFour
  rw [e2]
  exact ⟨g2 md (by omega), fun _ _ => g2 md (by omega)⟩
section C
variable {ro : RowS} {sz : Int32} {bf : Nat → Int32} {z : Nat}
theorem cr2 (h : FR ro sz bf z) (o : Int32) {m : Nat} (hm : m + 2 ≤ z) : M_Row_number ro (lN m) 2 o = lN (r2 o bf m) := by
  have hz := h.2.1
  have a0 : ab bf z (m + 0) = bv (bf m) := if_pos (by omega)
  have a1 : ab bf z (m + 1) = bv (bf (m + 1)) := if_pos (by omega)
  unfold r2
  by_cases ho : o = 77
  · rw [if_pos ho, ho]
    refine (num_be' (n := 2) h (by omega) (by omega)).trans (congrArg lN ?_)
    show (0 * 256 + ab bf z (m + 0)) * 256 + ab bf z (m + 1) = _
    rw [a0, a1]
    omega
  · rw [if_neg ho]
    refine (num_le' (n := 2) h (by omega) (by omega) ho).trans (congrArg lN ?_)
    show 0 + ab bf z (m + 0) * 256 ^ 0 + ab bf z (m + 1) * 256 ^ 1 = _
    rw [a0, a1]
    omega
theorem cr4 (h : FR ro sz bf z) (o : Int32) {m : Nat} (hm : m + 4 ≤ z) : M_Row_number ro (lN m) 4 o = lN (r4 o bf m) := by
  have hz := h.2.1
  have a0 : ab bf z (m + 0) = bv (bf m) := if_pos (by omega)
  have a1 : ab bf z (m + 1) = bv (bf (m + 1)) := if_pos (by omega)
  have a2 : ab bf z (m + 2) = bv (bf (m + 2)) := if_pos (by omega)
  have a3 : ab bf z (m + 3) = bv (bf (m + 3)) := if_pos (by omega)
  unfold r4 r2
  by_cases ho : o = 77
  · rw [if_pos ho, if_pos ho, if_pos ho, ho]
    refine (num_be' (n := 4) h (by omega) (by omega)).trans (congrArg lN ?_)
    show (((0 * 256 + ab bf z (m + 0)) * 256 + ab bf z (m + 1)) * 256 + ab bf z (m + 2)) * 256 + ab bf z (m + 3) = (bv (bf m) * 256 + bv (bf (m + 1))) * 65536 + (bv (bf (m + 2)) * 256 + bv (bf (m + 3)))
    rw [a0, a1, a2, a3]
    omega
  · rw [if_neg ho, if_neg ho, if_neg ho]
    refine (num_le' (n := 4) h (by omega) (by omega) ho).trans (congrArg lN ?_)
    show 0 + ab bf z (m + 0) * 256 ^ 0 + ab bf z (m + 1) * 256 ^ 1 + ab bf z (m + 2) * 256 ^ 2 + ab bf z (m + 3) * 256 ^ 3 = bv (bf m) + bv (bf (m + 1)) * 256 + (bv (bf (m + 2)) + bv (bf (m + 3)) * 256) * 65536
    rw [a0, a1, a2, a3]
    omega
theorem cr2_any (h : FR ro sz bf z) (o : Int32) {m : Nat} (hm : m < 2 ^ 61) : ∃ v, v < 65536 ∧ M_Row_number ro (lN m) 2 o = lN v := by
  by_cases ho : o = 77
  · rw [ho]
    exact ⟨_, be_lt 2 (fun i _ => ab_lt _ _ _), num_be' (n := 2) h hm (by omega)⟩
  · exact ⟨_, le_lt 2 (fun i _ => ab_lt _ _ _), num_le' (n := 2) h hm (by omega) ho⟩
theorem two_l : (2 : Int64) = lN 2 := rfl
/-- where a directory lies -/
theorem dir_eq (h : FR ro sz bf z) {rd md : Nat → Int32} (ho : rd 1 = md 14) {k : Nat} (hk : k < 4294967296) :
    (M_Rd_isDirectory rd ro (lN k) = 0 ∧ M_Md_lies md sz bf (lN k) = 0 ∧ G_Md_lies md sz (lN k)) ∨
    (M_Rd_isDirectory rd ro (lN k) = 1 ∧ M_Md_lies md sz bf (lN k) = 1 ∧ G_Md_lies md sz (lN k) ∧ 8 ≤ k ∧ 1 ≤ r2 (md 14) bf k ∧ k + 2 + 12 * r2 (md 14) bf k + 4 ≤ z ∧ M_Rd_entriesAt rd ro (lN k) = nI (r2 (md 14) bf k) ∧ M_Rd_linkOf rd ro (lN k) = lN (k + 2 + 12 * r2 (md 14) bf k)) := by
  have hz := h.2.1
  have e2 : lN k + 2 = lN (k + 2) := lN_add k 2
  have e4 : ∀ q : Nat, lN q + 4 = lN (q + 4) := fun q => lN_add q 4
  have em : lN k - lN k / 2 * 2 = lN (k % 2) := pk_lRem (b := 2) (by omega) (by omega) (by omega)
  have lk : ∀ v, v < 65536 → M_Rd_entriesAt rd ro (lN k) = nI v → M_Rd_linkOf rd ro (lN k) = lN (k + 2 + 12 * v) := by
    intro v hv e
    have e12 : (12 : Int32) * nI v = nI (12 * v) := pk_mul 12 v
    unfold M_Rd_linkOf
    rw [e, e12, nI_l (by omega), e2, lN_add]
  have ea : ∀ v, M_Row_number ro (lN k) 2 (rd 1) = lN v → M_Rd_entriesAt rd ro (lN k) = nI v := by
    intro v hv
    unfold M_Rd_entriesAt
    rw [hv, lN_i]
  have cs : ∀ q : Nat, q < 2 ^ 40 → ((0 < lg_cmp (lN q) sz.toInt64) ↔ z < q) := by
    intro q hq
    rw [lg_cmp_gt, h.2.2.2.1, nI_l (by omega), pk_lLT (by omega) (by omega)]
  have es : ro.2.2 = sz := by rw [h.2.2.1, h.2.2.2.1]
  by_cases c1 : k < 8
  · left
    have q : lg_cmp (lN k) 8 < 0 := by
      rw [lg_cmp_lt]
      exact (pk_lLT (b := 8) (by omega) (by omega)).mpr c1
    unfold M_Rd_isDirectory M_Md_lies G_Md_lies
    rw [if_pos q, if_pos q, if_pos q]
    exact ⟨rfl, rfl, trivial⟩
  have q1 : ¬ lg_cmp (lN k) 8 < 0 := by
    rw [lg_cmp_lt]
    intro t
    have t2 : lN k < lN 8 := t
    rw [pk_lLT (by omega) (by omega)] at t2
    omega
  rcases Nat.mod_two_eq_zero_or_one k with c2 | c2
  · have q2 : lg_cmp (lN (k % 2)) 0 = 0 := by rw [c2]; decide
    have q3 : ¬ lg_cmp (lN (k % 2)) 1 = 0 := by rw [c2]; decide
    by_cases c3 : k + 2 ≤ z
    · have q4 : lg_cmp (lN k + 2) sz.toInt64 ≤ 0 := by
        rw [e2, lg_cmp_le, h.2.2.2.1, nI_l (by omega), pk_lLE (by omega) (by omega)]
        exact c3
      have n1 := ea _ (cr2 h (rd 1) c3)
      rw [ho] at n1
      have n2 : M_Md_readTwo md bf (lN k).toInt32 = nI (r2 (md 14) bf k) := by rw [lN_i]; exact mr2 md bf (by omega)
      have n3 : G_Md_readTwo md (lN k).toInt32 := by rw [lN_i]; exact g2 md (by omega)
      have hv := r2_lt (md 14) bf k
      have n4 := lk _ hv n1
      by_cases c4 : r2 (md 14) bf k = 0
      · left
        have q5 : nI (r2 (md 14) bf k) ≤ 0 := by rw [c4]; decide
        unfold M_Rd_isDirectory M_Md_lies G_Md_lies
        rw [if_neg q1, if_neg q1, if_neg q1, em, if_pos q2, if_neg q3, if_neg q3, if_pos q4, if_pos q4, n1, if_pos q5]
        (try dsimp only)
        rw [n2, if_pos q5]
        exact ⟨rfl, rfl, n3⟩
      · have q5 : ¬ nI (r2 (md 14) bf k) ≤ 0 := nI_nle (by omega) (by omega)
        have er : (((lN k + 2) + (12 * (nI (r2 (md 14) bf k)).toInt64)) + 4) = lN (k + 2 + 12 * r2 (md 14) bf k + 4) := by
          have e12 : (12 : Int64) * lN (r2 (md 14) bf k) = lN (12 * r2 (md 14) bf k) := lN_mul 12 _
          rw [nI_l (by omega), e12, e2, lN_add, e4]
        by_cases c5 : z < k + 2 + 12 * r2 (md 14) bf k + 4
        · left
          have q6 : 0 < lg_cmp (lN (k + 2 + 12 * r2 (md 14) bf k + 4)) sz.toInt64 := (cs _ (by omega)).mpr c5
          unfold M_Rd_isDirectory M_Md_lies G_Md_lies
          rw [if_neg q1, if_neg q1, if_neg q1, em, if_pos q2, if_neg q3, if_neg q3, if_pos q4, if_pos q4, n1, if_neg q5, n4, e4, es, if_pos q6]
          (try dsimp only)
          rw [n2, if_neg q5, er, if_pos q6]
          exact ⟨rfl, rfl, n3⟩
        · right
          have q6 : ¬ 0 < lg_cmp (lN (k + 2 + 12 * r2 (md 14) bf k + 4)) sz.toInt64 := fun t => c5 ((cs _ (by omega)).mp t)
          refine ⟨?_, ?_, ?_, by omega, by omega, by omega, n1, n4⟩
          · unfold M_Rd_isDirectory
            rw [if_neg q1, em, if_pos q2, n1, if_neg q5, n4, e4, es, if_neg q6]
          · unfold M_Md_lies
            rw [if_neg q1, em, if_neg q3, if_pos q4]
            (try dsimp only)
            rw [n2, if_neg q5, er, if_neg q6]
          · unfold G_Md_lies
            rw [if_neg q1, em, if_neg q3, if_pos q4]
            exact n3
    · left
      have q4 : ¬ lg_cmp (lN k + 2) sz.toInt64 ≤ 0 := by
        rw [e2, lg_cmp_le, h.2.2.2.1, nI_l (by omega), pk_lLE (by omega) (by omega)]
        exact c3
      obtain ⟨v, hv, ev⟩ := cr2_any h (rd 1) (m := k) (by omega)
      have n1 := ea v ev
      have n4 := lk v hv n1
      refine ⟨?_, ?_, ?_⟩
      · unfold M_Rd_isDirectory
        rw [if_neg q1, em, if_pos q2, n1]
        by_cases c4 : nI v ≤ 0
        · rw [if_pos c4]
        · rw [if_neg c4, n4, e4, es, if_pos ((cs _ (by omega)).mpr (by omega))]
      · unfold M_Md_lies
        rw [if_neg q1, em, if_neg q3, if_neg q4]
      · unfold G_Md_lies
        rw [if_neg q1, em, if_neg q3, if_neg q4]
        trivial
  · left
    have q2 : ¬ lg_cmp (lN (k % 2)) 0 = 0 := by rw [c2]; decide
    have q3 : lg_cmp (lN (k % 2)) 1 = 0 := by rw [c2]; decide
    unfold M_Rd_isDirectory M_Md_lies G_Md_lies
    rw [if_neg q1, if_neg q1, if_neg q1, em, if_neg q2, if_pos q3, if_pos q3]
    exact ⟨rfl, rfl, trivial⟩
end C
-- the tags
def tg (j : Nat) : Nat := match j with | 0 => 256 | 1 => 257 | 2 => 259 | 3 => 262 | 4 => 266 | 5 => 278 | 6 => 296 | 7 => 282 | 8 => 283 | 9 => 273 | _ => 279
def wt (j : Nat) : Nat := match j with | 0 => 4 | 1 => 4 | 5 => 4 | 9 => 4 | 10 => 4 | 7 => 5 | 8 => 5 | _ => 3
theorem tg_known : ∀ j, j < 11 → M_Md_known (nI (tg j)) = nI j := by decide +kernel
theorem tg_wide : ∀ j, j < 11 → M_En_widestType (nI (tg j)) = nI (wt j) := by decide +kernel
theorem tg_in : ∀ j, j < 11 → 256 ≤ tg j ∧ tg j < 297 := by decide +kernel
theorem tg_inj : ∀ i, i < 11 → ∀ j, j < 11 → tg i = tg j → i = j := by decide +kernel
theorem wt_5 : ∀ j, j < 11 → (wt j = 5 ↔ (j = 7 ∨ j = 8)) := by decide +kernel
theorem wt_in : ∀ j, j < 11 → wt j = 3 ∨ wt j = 4 ∨ wt j = 5 := by decide +kernel
theorem tg_9 : ∀ j, j < 11 → (tg j = 273 ↔ j = 9) := by decide +kernel
theorem tg_10 : ∀ j, j < 11 → (tg j = 279 ↔ j = 10) := by decide +kernel
theorem known_cases (t : Nat) (ht : t < 65536) : (∃ j, j < 11 ∧ t = tg j) ∨ (M_Md_known (nI t) = -1 ∧ M_En_widestType (nI t) = 0) := by
  by_cases h : ∃ j, j < 11 ∧ t = tg j
  · exact Or.inl h
  · right
    have ne : ∀ j, j < 11 → ¬ nI t = nI (tg j) := fun j hj e => h ⟨j, hj, by
      have := (tg_in j hj).2
      rw [nI_eq (by omega) (by omega)] at e
      exact e⟩
    have n0 : ¬ nI t = 256 := ne 0 (by omega)
    have n1 : ¬ nI t = 257 := ne 1 (by omega)
    have n2 : ¬ nI t = 259 := ne 2 (by omega)
    have n3 : ¬ nI t = 262 := ne 3 (by omega)
    have n4 : ¬ nI t = 266 := ne 4 (by omega)
    have n5 : ¬ nI t = 278 := ne 5 (by omega)
    have n6 : ¬ nI t = 296 := ne 6 (by omega)
    have n7 : ¬ nI t = 282 := ne 7 (by omega)
    have n8 : ¬ nI t = 283 := ne 8 (by omega)
    have n9 : ¬ nI t = 273 := ne 9 (by omega)
    have na : ¬ nI t = 279 := ne 10 (by omega)
    unfold M_Md_known M_En_widestType
    rw [if_neg n0, if_neg n1, if_neg n2, if_neg n3, if_neg n4, if_neg n9, if_neg n5, if_neg na, if_neg n7, if_neg n8, if_neg n6, if_neg n0, if_neg n1, if_neg n2, if_neg n3, if_neg n4, if_neg n9, if_neg n5, if_neg na, if_neg n7, if_neg n8, if_neg n6]
    exact ⟨rfl, rfl⟩
def typ (j T : Nat) : Bool := decide (T = wt j) || (decide (wt j = 4) && decide (T = 3))
def cnt (j C : Nat) : Bool := decide (1 ≤ C) && decide (C ≤ 4096) && (decide (8 < j) || decide (C = 1))
def bs (T : Nat) : Nat := if T = 3 then 2 else if T = 4 then 4 else 8
theorem bs_le (T : Nat) : bs T ≤ 8 := by unfold bs; split; decide; split <;> decide
theorem typ_val {j T : Nat} (hj : j < 11) (hT : T < 65536) : M_En_canHaveType (nI (tg j)) (nI T) = if typ j T = true then 1 else 0 := by
  have hw := wt_in j hj
  have k4 : nI (wt j) = 4 ↔ wt j = 4 := nI_eq (b := 4) (by omega) (by omega)
  have k3 : nI T = 3 ↔ T = 3 := nI_eq (b := 3) (by omega) (by omega)
  unfold M_En_canHaveType typ
  rw [tg_wide j hj]
  by_cases a : T = wt j
  · rw [a, if_pos rfl, if_pos]
    simp
  · have a' : ¬ nI T = nI (wt j) := fun e => a ((nI_eq (by omega) (by omega)).mp e)
    rw [if_neg a']
    by_cases b : wt j = 4
    · rw [if_pos (k4.mpr b)]
      by_cases c : T = 3
      · rw [if_pos (k3.mpr c), if_pos]
        simp [b, c]
      · rw [if_neg (fun e => c (k3.mp e)), if_neg]
        simp [a, c]
    · rw [if_neg (fun e => b (k4.mp e)), if_neg]
      simp [a, b]
theorem win_val (C M : Nat) (hC : C < 4294967296) (hM : M < 65536) : M_PF_isWithin (lN C) 1 (lN M) = if 1 ≤ C ∧ C ≤ M then 1 else 0 := by
  have k : M_PF_isWithin (lN C) 1 (lN M) = 0 ↔ C < 1 ∨ M < C := by
    rw [within_iff]
    exact or_congr (pk_lLT (b := 1) (by omega) (by omega)) (pk_lLT (by omega) (by omega))
  by_cases c : 1 ≤ C ∧ C ≤ M
  · rw [if_pos c]
    unfold M_PF_isWithin at k ⊢
    by_cases a : lg_cmp (lN C) 1 < 0
    · rw [if_pos a] at k
      have := k.mp rfl
      omega
    · rw [if_neg a] at k ⊢
      by_cases b : 0 < lg_cmp (lN C) (lN M)
      · rw [if_pos b] at k
        have := k.mp rfl
        omega
      · rw [if_neg b]
  · rw [if_neg c]
    exact k.mpr (by omega)
theorem cnt_val {j C : Nat} (hj : j < 11) (hC : C < 4294967296) : M_En_canHaveCount (nI (tg j)) (lN C) = if cnt j C = true then 1 else 0 := by
  have hi := tg_in j hj
  have k9 : nI (tg j) = 273 ↔ j = 9 := (nI_eq (b := 273) (by omega) (by omega)).trans (tg_9 j hj)
  have k10 : nI (tg j) = 279 ↔ j = 10 := (nI_eq (b := 279) (by omega) (by omega)).trans (tg_10 j hj)
  have w1 : M_PF_isWithin (lN C) 1 4096 = if 1 ≤ C ∧ C ≤ 4096 then 1 else 0 := win_val C 4096 hC (by omega)
  have w2 : M_PF_isWithin (lN C) 1 1 = if 1 ≤ C ∧ C ≤ 1 then 1 else 0 := win_val C 1 hC (by omega)
  have big : 8 < j → (if 1 ≤ C ∧ C ≤ 4096 then (1 : Int32) else 0) = if cnt j C = true then 1 else 0 := by
    intro h8
    by_cases c : 1 ≤ C ∧ C ≤ 4096
    · rw [if_pos c, if_pos]
      simp [cnt, c.1, c.2, h8]
    · rw [if_neg c, if_neg]
      intro q
      simp [cnt] at q
      exact c q.1
  unfold M_En_canHaveCount
  by_cases a : j = 9
  · rw [if_pos (k9.mpr a), w1]
    exact big (by omega)
  · rw [if_neg (fun e => a (k9.mp e))]
    by_cases b : j = 10
    · rw [if_pos (k10.mpr b), w1]
      exact big (by omega)
    · rw [if_neg (fun e => b (k10.mp e)), w2]
      by_cases c : 1 ≤ C ∧ C ≤ 1
      · have : C = 1 := by omega
        rw [if_pos c, if_pos]
        simp [cnt, this]
      · rw [if_neg c, if_neg]
        intro q
        simp [cnt] at q
        omega
theorem bs_c (T : Nat) (hT : T < 65536) : M_En_bytesOf (nI T) = nI (bs T) ∧ M_Md_sizeOf (nI T) = nI (bs T) := by
  have k3 : nI T = 3 ↔ T = 3 := nI_eq (b := 3) (by omega) (by omega)
  have k4 : nI T = 4 ↔ T = 4 := nI_eq (b := 4) (by omega) (by omega)
  unfold M_En_bytesOf M_Md_sizeOf bs
  by_cases a : T = 3
  · rw [if_pos (k3.mpr a), if_pos a]
    exact ⟨rfl, rfl⟩
  · rw [if_neg (fun e => a (k3.mp e)), if_neg a]
    by_cases b : T = 4
    · rw [if_pos (k4.mpr b), if_pos b]
      exact ⟨rfl, rfl⟩
    · rw [if_neg (fun e => b (k4.mp e)), if_neg b]
      exact ⟨rfl, rfl⟩
end PRA
