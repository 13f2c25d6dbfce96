section PURE
abbrev RowS : Type := Nat × (Nat → Int32) × Int32
def gC (d a b : Nat) : Nat := b / d - a / d
def gS (a b : Nat) : Nat := 2 * (b - a)
def p2 (j : Nat) : Nat := match j with | 0 => 1 | 1 => 2 | 2 => 4 | 3 => 8 | 4 => 16 | 5 => 32 | 6 => 64 | 7 => 128 | 8 => 256 | _ => 512
/-- the row: its room is 1024 doubled some times, up to 65536; its size is in it; it holds bytes -/
def RowOK (r : RowS) : Prop := (∃ j, j ≤ 6 ∧ r.1 = 1024 * p2 j) ∧ (∃ k, r.2.2 = nI k ∧ k ≤ r.1) ∧ ∀ j, fits .byte (.int (r.2.1 j)) = true
def StOK (mo : Int32) (r : RowS) : Prop := (mo = 512 ∧ (∃ j, j ≤ 5 ∧ r.1 = 32 * p2 j) ∨ mo = 8192 ∧ (∃ j, j ≤ 9 ∧ r.1 = 32 * p2 j)) ∧ ∃ k, r.2.2 = nI k ∧ 2 * k ≤ r.1
theorem RowOK.le {r : RowS} (h : RowOK r) : 1024 ≤ r.1 ∧ r.1 ≤ 65536 := by
  obtain ⟨⟨j, hj, he⟩, -⟩ := h
  rw [he]
  match j, hj with
  | 0, _ => decide
  | 1, _ => decide
  | 2, _ => decide
  | 3, _ => decide
  | 4, _ => decide
  | 5, _ => decide
  | 6, _ => decide
theorem StOK.le {mo : Int32} {r : RowS} (h : StOK mo r) : 32 ≤ r.1 ∧ r.1 ≤ 16384 := by
  obtain ⟨⟨-, j, hj, he⟩ | ⟨-, j, hj, he⟩, -⟩ := h <;> rw [he]
  · match j, hj with
    | 0, _ => decide
    | 1, _ => decide
    | 2, _ => decide
    | 3, _ => decide
    | 4, _ => decide
    | 5, _ => decide
  · match j, hj with
    | 0, _ => decide
    | 1, _ => decide
    | 2, _ => decide
    | 3, _ => decide
    | 4, _ => decide
    | 5, _ => decide
    | 6, _ => decide
    | 7, _ => decide
    | 8, _ => decide
    | 9, _ => decide
theorem i32_lt {a b : Int32} : a < b ↔ a.toInt < b.toInt := Int32.lt_iff_toInt_lt
theorem i32_le {a b : Int32} : a ≤ b ↔ a.toInt ≤ b.toInt := Int32.le_iff_toInt_le
theorem i64_lt {a b : Int64} : a < b ↔ a.toInt < b.toInt := Int64.lt_iff_toInt_lt
theorem i64_le {a b : Int64} : a ≤ b ↔ a.toInt ≤ b.toInt := Int64.le_iff_toInt_le
theorem ne0_long {x : Int64} (h : 0 ≤ lg_cmp x 1) : ¬ x = 0 := by
  rw [lg_cmp_ge] at h
  intro e
  rw [e] at h
  exact absurd h (by decide)
theorem vp_int {i : Int32} {n : Nat} (h1 : ¬ i < 0) (h2 : ¬ nI n ≤ i) (hn : n < 2 ^ 31) : vp_in i n := by
  rw [vp_in_iff]
  rw [i32_lt] at h1
  rw [i32_le, nI_toInt hn] at h2
  have h0 : (0 : Int32).toInt = 0 := by decide
  rw [h0] at h1
  omega
theorem vp_long {k : Int64} {n : Nat} (h1 : ¬ lg_cmp k 0 < 0) (h2 : ¬ 0 ≤ lg_cmp k (nI n).toInt64) (hn : n < 2 ^ 31) : vp_in k.toInt32 n := by
  rw [lg_cmp_lt, i64_lt] at h1
  rw [lg_cmp_ge, i64_le, Int32.toInt_toInt64, nI_toInt hn] at h2
  have h0 : (0 : Int64).toInt = 0 := by decide
  rw [h0] at h1
  rw [vp_in_iff, Int64.toInt_toInt32]
  have e : k.toInt.bmod (2 ^ 32) = k.toInt := Int.bmod_eq_of_le (by omega) (by omega)
  rw [e]
  omega
theorem mu_dec {b i : Int32} {n : Nat} (h : ¬ b ≤ i) (hm : (b.toInt - i.toInt).toNat < n + 1) : (b.toInt - (i + 1).toInt).toNat < n := by
  rw [i32_le] at h
  have hb := b.toInt_lt
  have hi := i.le_toInt
  have e : (i + 1).toInt = i.toInt + 1 := by
    rw [Int32.toInt_add]
    have h1 : (1 : Int32).toInt = 1 := by decide
    rw [h1]
    exact Int.bmod_eq_of_le (by omega) (by omega)
  rw [e]
  omega
theorem gp_pos {c : Prop} [Decidable c] {P Q : Prop} (h : c) (g : if c then P else Q) : P := by rw [if_pos h] at g; exact g
theorem gp_neg {c : Prop} [Decidable c] {P Q : Prop} (h : ¬ c) (g : if c then P else Q) : Q := by rw [if_neg h] at g; exact g
end PURE
section PURE2
def cpyN (f : Nat → Int32) (n : Nat) (N : Int32) : Nat → Int32 := va_cpy f (fun _ => 0) (0 : Int32).toNatClampNeg (0 : Int32).toNatClampNeg (if N < nI n then N else nI n).toNatClampNeg
def fillN (f : Nat → Int32) (n : Nat) (v : Int32) : Nat → Int32 := fun j => if j < n then v else f j
theorem nb01 {v : Int32} (h : v = 0 ∨ v = 1) : narrow .boolean (.int v) = .int v := by rcases h with rfl | rfl <;> rfl
theorem p2_5 : ∀ j, j ≤ 5 → p2 j ≤ 32 := by decide
theorem p2_s : ∀ j, j ≤ 8 → p2 (j + 1) = 2 * p2 j := by decide
theorem mu_dec41 {i : Int32} {n : Nat} (h : ¬ 40 < i) (hm : ((41 : Int32).toInt - i.toInt).toNat < n + 1) : ((41 : Int32).toInt - (i + 1).toInt).toNat < n := by
  refine mu_dec ?_ hm
  rw [i32_lt] at h
  rw [i32_le]
  have h1 : (40 : Int32).toInt = 40 := by decide
  have h2 : (41 : Int32).toInt = 41 := by decide
  rw [h1] at h
  rw [h2]
  omega
theorem RowOK.z0 {r : RowS} (h : RowOK r) : RowOK (r.1, r.2.1, 0) := ⟨h.1, ⟨0, rfl, Nat.zero_le _⟩, h.2.2⟩
theorem StOK.z0 {mo : Int32} {r : RowS} (h : StOK mo r) : StOK mo (r.1, r.2.1, 0) := ⟨h.1, 0, rfl, Nat.zero_le _⟩
theorem RowOK.cut {r : RowS} {v : Int32} (h : RowOK r) (h1 : ¬ v < 0) (h2 : v ≤ r.2.2) : RowOK (r.1, r.2.1, v) := by
  have hb := h.le
  obtain ⟨ha, ⟨k, hk, hkn⟩, hc⟩ := h
  obtain ⟨j, hj, rfl⟩ := nI_of h1
  rw [hk, nI_leI hj (by omega)] at h2
  exact ⟨ha, ⟨j, rfl, Nat.le_trans h2 hkn⟩, hc⟩
theorem row_grow {ro : RowS} (h : RowOK ro) (c1 : ¬ ro.2.2 < nI ro.1) (c2 : ¬ 65536 ≤ ro.2.2) : ¬ (if 65536 < (2 * ro.2.2) then 65536 else (2 * ro.2.2)) < 0 ∧ (if 65536 < (2 * ro.2.2) then 65536 else (2 * ro.2.2)).toNatClampNeg = 2 * ro.1 ∧ 2 * ro.1 ≤ 65536 ∧ ¬ (if 65536 < (2 * ro.2.2) then 65536 else (2 * ro.2.2)) = nI ro.1 := by
  have hb := h.le
  obtain ⟨⟨j, hj, hn⟩, ⟨k, hk, hkn⟩, -⟩ := h
  rw [hk, nI_ltI (by omega) (by omega)] at c1
  have e : k = ro.1 := by omega
  rw [hk, show (65536 : Int32) = nI 65536 from rfl, nI_leI (by omega) (by omega)] at c2
  have h2 : 2 * ro.1 ≤ 65536 := by
    have h5 : j ≤ 5 := by
      rcases Nat.lt_or_ge 5 j with q | q
      · have : j = 6 := by omega
        rw [this] at hn
        have : p2 6 = 64 := rfl
        omega
      · exact q
    have := p2_5 j h5
    omega
  have e2 : 2 * ro.2.2 = nI (2 * ro.1) := by rw [hk, e]; exact pk_mul 2 ro.1
  rw [e2]
  have c3 : ¬ (65536 : Int32) < nI (2 * ro.1) := by
    rw [show (65536 : Int32) = nI 65536 from rfl, nI_ltI (by omega) (by omega)]
    omega
  rw [if_neg c3]
  exact ⟨nI_pos (by omega), nI_clamp (by omega), h2, fun h => by rw [nI_eq (by omega) (by omega)] at h; omega⟩
theorem st_cap {mo : Int32} {st : RowS} (h : StOK mo st) : ∃ M : Nat, mo = nI M ∧ (M = 512 ∨ M = 8192) ∧ st.1 ≤ 2 * M ∧ (st.1 < 2 * M → 2 * st.1 ≤ 2 * M) := by
  obtain ⟨⟨hm, j, hj, he⟩ | ⟨hm, j, hj, he⟩, -⟩ := h
  · refine ⟨512, hm, Or.inl rfl, ?_⟩
    rw [he]
    match j, hj with
    | 0, _ => decide
    | 1, _ => decide
    | 2, _ => decide
    | 3, _ => decide
    | 4, _ => decide
    | 5, _ => decide
  · refine ⟨8192, hm, Or.inr rfl, ?_⟩
    rw [he]
    match j, hj with
    | 0, _ => decide
    | 1, _ => decide
    | 2, _ => decide
    | 3, _ => decide
    | 4, _ => decide
    | 5, _ => decide
    | 6, _ => decide
    | 7, _ => decide
    | 8, _ => decide
    | 9, _ => decide
theorem st_even {mo : Int32} {st : RowS} (h : StOK mo st) : st.1 % 2 = 0 := by
  obtain ⟨⟨-, j, hj, he⟩ | ⟨-, j, hj, he⟩, -⟩ := h <;> omega
theorem st_grow {mo : Int32} {st : RowS} (h : StOK mo st) (c1 : ¬ (2 * st.2.2) < nI st.1) (c2 : ¬ mo ≤ st.2.2) : ¬ (2 * (if mo < (2 * st.2.2) then mo else (2 * st.2.2))) < 0 ∧ (2 * (if mo < (2 * st.2.2) then mo else (2 * st.2.2))).toNatClampNeg = 2 * st.1 ∧ 2 * st.1 ≤ 16384 ∧ ¬ (2 * (if mo < (2 * st.2.2) then mo else (2 * st.2.2))) = nI st.1 := by
  have hb := h.le
  obtain ⟨M, hM, hM2, h3, h4⟩ := st_cap h
  obtain ⟨-, k, hk, hkn⟩ := h
  have e0 : 2 * st.2.2 = nI (2 * k) := by rw [hk]; exact pk_mul 2 k
  rw [e0, nI_ltI (by omega) (by omega)] at c1
  have e : 2 * k = st.1 := by omega
  rw [hk, hM, nI_leI (by omega) (by omega)] at c2
  rw [e0, hM, e]
  have c3 : ¬ nI M < nI st.1 := by
    rw [nI_ltI (by omega) (by omega)]
    omega
  rw [if_neg c3, show (2 : Int32) * nI st.1 = nI (2 * st.1) from pk_mul 2 st.1]
  exact ⟨nI_pos (by omega), nI_clamp (by omega), by omega, fun h => by rw [nI_eq (by omega) (by omega)] at h; omega⟩
theorem st_in {mo : Int32} {st : RowS} (h : StOK mo st) {n : Nat} (hn : n < 2 ^ 31) (c : ¬ nI n ≤ ((2 * st.2.2) + 1)) : vp_in (2 * st.2.2) n ∧ vp_in ((2 * st.2.2) + 1) n := by
  have hb := h.le
  obtain ⟨-, k, hk, hkn⟩ := h
  have e0 : 2 * st.2.2 = nI (2 * k) := by rw [hk]; exact pk_mul 2 k
  rw [e0, nI_1, nI_leI hn (by omega)] at c
  rw [e0, nI_1]
  exact ⟨vp_in_nI (by omega) hn, vp_in_nI (by omega) hn⟩
theorem fit_b (v : Int32) : fits .byte (.int (vp_nar .byte v.toInt8.toInt32)) = true := by rw [pk_vb]; exact pk_fb v
theorem fit_u {f : Nat → Int32} (h : ∀ j, fits .byte (.int (f j)) = true) (k : Nat) (v : Int32) : ∀ j, fits .byte (.int (upd f k (vp_nar .byte v.toInt8.toInt32) j)) = true := sb_fitU (a := f) h (fit_b v)
theorem fit_c {f : Nat → Int32} (h : ∀ j, fits .byte (.int (f j)) = true) (n : Nat) (N : Int32) : ∀ j, fits .byte (.int (cpyN f n N j)) = true := sb_fitC (f := f) h sb_fit0
theorem ty_same {cl : List vw_C} {D : va_G} {tys : List (ClassId × FieldType)} {s : State} {cA c0 : ClassId} {ty : FieldType} (hK : va_K D cl (tys ++ [(cA, ty)]) s) (t0 : Nat) (h0 : tys[t0]? = some (c0, ty)) (hp : refKind ty = false := by rfl) : cA = c0 := by
  have h1 := (hK.2 tys.length (cA, ty) (by simp)).2
  have h2 := (hK.2 t0 (c0, ty) (by rw [List.getElem?_append_left (List.getElem?_eq_some_iff.mp h0).1]; exact h0)).2
  cases ty <;> first | (simp [refKind] at hp; done) | (simp only [va_RA] at h1 h2; exact Option.some.inj (h1.symm.trans h2))

theorem cpy_k {n : Nat} {N : Int32} (hn : n < 2 ^ 31) (hN : ¬ N < 0) : ¬ (if N < nI n then N else nI n) < 0 ∧ (0 : Int32).toNatClampNeg + (if N < nI n then N else nI n).toNatClampNeg ≤ n ∧ (0 : Int32).toNatClampNeg + (if N < nI n then N else nI n).toNatClampNeg ≤ N.toNatClampNeg := by
  obtain ⟨j, hj, rfl⟩ := nI_of hN
  have z : (0 : Int32).toNatClampNeg = 0 := rfl
  rw [z]
  by_cases q : nI j < nI n
  · rw [if_pos q, nI_clamp hj]
    rw [nI_ltI hj hn] at q
    exact ⟨nI_pos hj, by omega, by omega⟩
  · rw [if_neg q, nI_clamp hj, nI_clamp hn]
    rw [nI_ltI hj hn] at q
    exact ⟨nI_pos hn, by omega, by omega⟩
end PURE2
