section PR1
/-- the row and the reference's file hold the same z bytes -/
def FR (ro : RowS) (sz : Int32) (bf : Nat → Int32) (z : Nat) : Prop := RowOK ro ∧ z ≤ 65536 ∧ ro.2.2 = nI z ∧ sz = nI z ∧ ∀ j, j < z → bf j = ro.2.1 j
theorem RowOK.size {ro : RowS} (h : RowOK ro) : ∃ z, z ≤ ro.1 ∧ z ≤ 65536 ∧ ro.2.2 = nI z := by
  have hb := h.le
  obtain ⟨-, ⟨k, hk, hkn⟩, -⟩ := h
  exact ⟨k, hkn, by omega, hk⟩
theorem FR.le {ro : RowS} {sz : Int32} {bf : Nat → Int32} {z : Nat} (h : FR ro sz bf z) : z ≤ ro.1 := by
  obtain ⟨h1, h2, h3, -⟩ := h
  have hb := h1.le
  obtain ⟨k, hk, hk2, hk3⟩ := h1.size
  rw [h3, nI_eq (by omega) (by omega)] at hk3
  omega
theorem FR.of {ro : RowS} {sz : Int32} {bf : Nat → Int32} (h1 : RowOK ro) (h2 : RelF ro sz bf) : ∃ z, FR ro sz bf z := by
  obtain ⟨z, a, b, c⟩ := h1.size
  exact ⟨z, h1, b, c, by rw [h2.1]; exact c, fun j hj => h2.2 z j c a hj⟩
theorem FR.rel {ro : RowS} {sz : Int32} {bf : Nat → Int32} {z : Nat} (h : FR ro sz bf z) : RelF ro sz bf := by
  have hle := h.le
  have hb := h.1.le
  refine ⟨by rw [h.2.2.1, h.2.2.2.1], fun k j hk hk2 hj => ?_⟩
  rw [h.2.2.1, nI_eq (by omega) (by omega)] at hk
  exact h.2.2.2.2 j (by omega)
-- bits
theorem wb_tb (n : Nat) : (lN n).toBitVec = BitVec.ofNat 64 n := rfl
theorem wb_inj {a b : Int64} (h : a.toBitVec = b.toBitVec) : a = b := Int64.toBitVec_inj.mp h
theorem wb_tn {n : Nat} (h : n < 2 ^ 64) : (lN n).toBitVec.toNat = n := by rw [wb_tb, BitVec.toNat_ofNat, Nat.mod_eq_of_lt h]
theorem wb_of (x : Int64) : ∃ n, n < 2 ^ 64 ∧ x = lN n := ⟨x.toBitVec.toNat, x.toBitVec.isLt, wb_inj (by rw [wb_tb]; simp)⟩
theorem wb_c : ∀ k, k < 64 → ((nI k).toInt64 &&& 63) = lN k := by decide +kernel
theorem wb_sm : ∀ k, k < 64 → (BitVec.ofNat 64 k).smod 64 = BitVec.ofNat 64 k := by decide +kernel
theorem sm_l : ∀ k, k < 64 → ((lN k).toBitVec.smod 64).toNat = k := by decide +kernel
theorem sm_i : ∀ k, k < 32 → ((nI k &&& 31).toBitVec.smod 32).toNat = k := by decide +kernel
theorem wb_shl (n : Nat) {k : Nat} (hk : k < 64) : lN n <<< ((nI k).toInt64 &&& 63) = lN (n * 2 ^ k) := by
  rw [wb_c k hk]
  apply wb_inj
  rw [Int64.toBitVec_shiftLeft, wb_tb, wb_tb, wb_tb, wb_sm k hk]
  apply BitVec.eq_of_toNat_eq
  rw [BitVec.shiftLeft_eq', BitVec.toNat_shiftLeft, BitVec.toNat_ofNat, BitVec.toNat_ofNat, BitVec.toNat_ofNat, Nat.mod_eq_of_lt (show k < 2 ^ 64 by omega), Nat.shiftLeft_eq, Nat.mul_mod, Nat.mod_mod, ← Nat.mul_mod]
theorem wb_and {a b : Nat} (ha : a < 2 ^ 64) (hb : b < 2 ^ 64) : lN a &&& lN b = lN (a &&& b) := by
  apply wb_inj
  rw [Int64.toBitVec_and, wb_tb, wb_tb, wb_tb]
  apply BitVec.eq_of_toNat_eq
  rw [BitVec.toNat_and, BitVec.toNat_ofNat, BitVec.toNat_ofNat, BitVec.toNat_ofNat, Nat.mod_eq_of_lt ha, Nat.mod_eq_of_lt hb, Nat.mod_eq_of_lt (Nat.and_lt_two_pow _ hb)]
theorem u_tn {n : Nat} (h : n < 2 ^ 64) : (UInt64.ofNat n).toNat = n := Nat.mod_eq_of_lt h
theorem g_or {k p a b : Nat} (hp : 2 ^ k = p) (ha : a < p) (h : b * p + a < 2 ^ 64) : lN (b * p) ||| lN a = lN (b * p + a) := by
  subst hp
  have h1 : b * 2 ^ k ||| a = b * 2 ^ k + a := by rw [← Nat.shiftLeft_eq, Nat.shiftLeft_add_eq_or_of_lt ha]
  have h3 : UInt64.ofNat (b * 2 ^ k) ||| UInt64.ofNat a = UInt64.ofNat (b * 2 ^ k + a) := UInt64.toNat_inj.mp (by rw [UInt64.toNat_or, u_tn (by omega), u_tn (by omega), u_tn h, h1])
  have h2 := congrArg UInt64.toInt64 h3
  exact h2
theorem pl_shr (p : Int64) {D : Int64} {d : Nat} (hD : (D.toBitVec.smod 64).toNat = d) : (p >>> D).toInt = p.toInt >>> d := by
  rw [← hD]
  exact BitVec.toInt_sshiftRight ..
theorem low8 {x y : Int32} (h : x.toInt % 256 = y.toInt % 256) : x.toInt8.toInt32 = y.toInt8.toInt32 := by
  have e : x.toInt8 = y.toInt8 := Int8.toInt_inj.mp (by
    rw [Int32.toInt_toInt8, Int32.toInt_toInt8]
    have h2 : ((2 ^ 8 : Nat) : Int) = 256 := rfl
    rw [Int.bmod, Int.bmod, h2, h])
  rw [e]
theorem low_l (x : Int64) : x.toInt32.toInt % 256 = x.toInt % 256 := by
  rw [Int64.toInt_toInt32]
  have h1 := Int.bmod_add_bdiv x.toInt (2 ^ 32)
  have h2 : ((2 ^ 32 : Nat) : Int) = 4294967296 := rfl
  rw [h2] at h1
  omega
theorem lN_mod {n : Nat} (h : n < 2 ^ 64) : (lN n).toInt % 256 = (n : Int) % 256 := by
  have e : (lN n).toInt = if 2 * (lN n).toBitVec.toNat < 2 ^ 64 then ((lN n).toBitVec.toNat : Int) else ((lN n).toBitVec.toNat : Int) - ((2 ^ 64 : Nat) : Int) := BitVec.toInt_eq_toNat_cond _
  rw [wb_tn h] at e
  have h2 : ((2 ^ 64 : Nat) : Int) = 18446744073709551616 := rfl
  rw [h2] at e
  rw [e]
  split <;> omega
theorem and255 (x : Int64) : (x &&& 255).toInt % 256 = x.toInt % 256 := by
  obtain ⟨n, hn, rfl⟩ := wb_of x
  have e : lN n &&& 255 = lN (n % 256) := by
    have := wb_and hn (show 255 < 2 ^ 64 by decide)
    rw [show n &&& 255 = n % 256 from Nat.and_two_pow_sub_one_eq_mod n 8] at this
    exact this
  rw [e, lN_mod hn, pk_lT (by omega)]
  omega
theorem byte_eq (p : Int64) (r : Nat) : ((p >>> ((nI (8 * r)).toInt64 &&& 63)).toInt32).toInt % 256 = (((p >>> ((8 * nI r).toInt64 &&& 63)) &&& 255).toInt32).toInt % 256 := by
  have e : (8 : Int32) * nI r = nI (8 * r) := pk_mul 8 r
  rw [e, low_l, low_l, and255]
theorem shr_eq (v : Int32) {k : Nat} (hk : k < 32) : ((v.toInt64 >>> ((nI k).toInt64 &&& 63)).toInt32).toInt % 256 = (v >>> (nI k &&& 31)).toInt % 256 := by
  rw [low_l, wb_c k (by omega), pl_shr (d := k) _ (sm_l k (by omega)), Int32.toInt_toInt64, pk_shr _ _ k (sm_i k hk)]
theorem shr_0 (v : Int32) : ((v.toInt64 >>> ((nI 0).toInt64 &&& 63)).toInt32).toInt % 256 = v.toInt % 256 := by
  rw [low_l, wb_c 0 (by omega), pl_shr (d := 0) _ (sm_l 0 (by omega)), Int32.toInt_toInt64, Int.shiftRight_zero]
theorem shr_24 (v : Int32) : ((v.toInt64 >>> ((nI 24).toInt64 &&& 63)).toInt32).toInt % 256 = ((v >>> (nI 16 &&& 31)) >>> (nI 8 &&& 31)).toInt % 256 := by
  rw [shr_eq v (by omega), pk_shr _ _ 24 (sm_i 24 (by omega)), pk_shr _ _ 8 (sm_i 8 (by omega)), pk_shr _ _ 16 (sm_i 16 (by omega)), Int.shiftRight_eq_div_pow, Int.shiftRight_eq_div_pow, Int.shiftRight_eq_div_pow]
  have h1 : ((2 ^ 24 : Nat) : Int) = 16777216 := rfl
  have h2 : ((2 ^ 16 : Nat) : Int) = 65536 := rfl
  have h3 : ((2 ^ 8 : Nat) : Int) = 256 := rfl
  rw [h1, h2, h3]
  omega
-- a byte more
theorem cpyN_in {f : Nat → Int32} {n j : Nat} (hn : n ≤ 65536) (hj : j < n) : cpyN f n (nI (2 * n)) j = f j := by
  unfold cpyN
  rw [if_neg (nI_nlt (by omega) (by omega)), nI_clamp (by omega), sb_cl0]
  exact sb_cpy0 hj
theorem one_val {sz : Int32} {bf : Nat → Int32} {z : Nat} (h : sz = nI z) (hz : z ≤ 65536) (w : Int32) : M_Md_one sz bf w = (nI (z + 1), upd bf z (vp_nar .byte w.toInt8.toInt32)) := by
  unfold M_Md_one
  rw [h]
  (try dsimp only)
  rw [nI_clamp (by omega), nI_1]
theorem FR.add {ro : RowS} {sz : Int32} {bf : Nat → Int32} {z : Nat} (h : FR ro sz bf z) (hz : z < 65536) {v w : Int32} (hv : v.toInt % 256 = w.toInt % 256) : FR (M_Row_add ro v) (M_Md_one sz bf w).1 (M_Md_one sz bf w).2 (z + 1) := by
  have hle := h.le
  have hb := h.1.le
  have hok := (add_ok h.1 v).1
  have e8 := low8 hv
  rw [one_val h.2.2.2.1 (by omega) w]
  rcases Nat.lt_or_ge z ro.1 with q | q
  · rw [add_lt h.1 h.2.2.1 q v] at hok ⊢
    refine ⟨hok, by omega, rfl, rfl, fun j hj => ?_⟩
    show upd bf z _ j = upd ro.2.1 z _ j
    by_cases hjz : j = z
    · rw [hjz, pk_us, pk_us, e8]
    · rw [pk_un hjz, pk_un hjz]
      exact h.2.2.2.2 j (by omega)
  · have e : ro.1 = z := by omega
    rw [add_grow h.1 (by rw [h.2.2.1, e]) (by omega) v] at hok ⊢
    refine ⟨hok, by omega, by rw [e], rfl, fun j hj => ?_⟩
    show upd bf z _ j = upd (cpyN ro.2.1 ro.1 (nI (2 * ro.1))) ro.1 _ j
    rw [e]
    by_cases hjz : j = z
    · rw [hjz, pk_us, pk_us, e8]
    · rw [pk_un hjz, pk_un hjz, cpyN_in (by omega) (by omega)]
      exact h.2.2.2.2 j (by omega)
theorem FR.g1 {ro : RowS} {sz : Int32} {bf : Nat → Int32} {z : Nat} (h : FR ro sz bf z) (hz : z < 65536) : G_Md_one sz := by
  unfold G_Md_one
  rw [h.2.2.2.1]
  exact vp_in_nI hz (by omega)
-- the class's append, step by step
theorem sh_be {n i : Nat} (h : i < n) : M_Row_shiftOf (nI i) (nI n) 77 = nI (8 * (n - 1 - i)) := by
  unfold M_Row_shiftOf
  rw [if_pos rfl]
  show nI 8 * (nI n - nI 1 - nI i) = _
  rw [pk_sub (by omega), pk_sub (by omega), pk_mul]
theorem sh_le {w o : Int32} {i : Nat} (h : ¬ o = 77) : M_Row_shiftOf (nI i) w o = nI (8 * i) := by
  unfold M_Row_shiftOf
  rw [if_neg h]
  show nI 8 * nI i = _
  rw [pk_mul]
theorem ap_go {p : Int64} {n i f : Nat} {o : Int32} {ro : RowS} (h : i < n) (hn : n ≤ 8) : L_Row_append p (nI n) o (f + 1) (nI i) ro = L_Row_append p (nI n) o f (nI (i + 1)) (M_Row_add ro ((p >>> ((M_Row_shiftOf (nI i) (nI n) o).toInt64 &&& 63)).toInt32)) := by
  rw [L_Row_append, if_neg (nI_ge h (by omega)), nI_1]
theorem ap_end {p : Int64} {n f : Nat} {o : Int32} {ro : RowS} : L_Row_append p (nI n) o (f + 1) (nI n) ro = ro := by
  rw [L_Row_append, if_pos (Int32.le_refl _)]
theorem app1 (ro : RowS) (p : Int64) (o : Int32) : M_Row_append ro p 1 o = M_Row_add ro ((p >>> ((nI 0).toInt64 &&& 63)).toInt32) := by
  have s0 : M_Row_shiftOf (nI 0) (nI 1) o = nI 0 := by
    by_cases ho : o = 77
    · rw [ho, sh_be (by omega)]
    · rw [sh_le ho]
  have e : M_Row_append ro p 1 o = L_Row_append p (nI 1) o (0 + 1 + 1) (nI 0) ro := rfl
  rw [e, ap_go (by omega) (by omega), s0]
  exact ap_end
theorem app2_be (ro : RowS) (p : Int64) : M_Row_append ro p 2 77 = M_Row_add (M_Row_add ro ((p >>> ((nI 8).toInt64 &&& 63)).toInt32)) ((p >>> ((nI 0).toInt64 &&& 63)).toInt32) := by
  have e : M_Row_append ro p 2 77 = L_Row_append p (nI 2) 77 (0 + 1 + 1 + 1) (nI 0) ro := rfl
  rw [e, ap_go (by omega) (by omega), ap_go (by omega) (by omega), sh_be (by omega), sh_be (by omega)]
  exact ap_end
theorem app2_le (ro : RowS) (p : Int64) {o : Int32} (ho : ¬ o = 77) : M_Row_append ro p 2 o = M_Row_add (M_Row_add ro ((p >>> ((nI 0).toInt64 &&& 63)).toInt32)) ((p >>> ((nI 8).toInt64 &&& 63)).toInt32) := by
  have e : M_Row_append ro p 2 o = L_Row_append p (nI 2) o (0 + 1 + 1 + 1) (nI 0) ro := rfl
  rw [e, ap_go (by omega) (by omega), ap_go (by omega) (by omega), sh_le ho, sh_le ho]
  exact ap_end
theorem app4_be (ro : RowS) (p : Int64) : M_Row_append ro p 4 77 = M_Row_add (M_Row_add (M_Row_add (M_Row_add ro ((p >>> ((nI 24).toInt64 &&& 63)).toInt32)) ((p >>> ((nI 16).toInt64 &&& 63)).toInt32)) ((p >>> ((nI 8).toInt64 &&& 63)).toInt32)) ((p >>> ((nI 0).toInt64 &&& 63)).toInt32) := by
  have e : M_Row_append ro p 4 77 = L_Row_append p (nI 4) 77 (0 + 1 + 1 + 1 + 1 + 1) (nI 0) ro := rfl
  rw [e, ap_go (by omega) (by omega), ap_go (by omega) (by omega), ap_go (by omega) (by omega), ap_go (by omega) (by omega), sh_be (by omega), sh_be (by omega), sh_be (by omega), sh_be (by omega)]
  exact ap_end
theorem app4_le (ro : RowS) (p : Int64) {o : Int32} (ho : ¬ o = 77) : M_Row_append ro p 4 o = M_Row_add (M_Row_add (M_Row_add (M_Row_add ro ((p >>> ((nI 0).toInt64 &&& 63)).toInt32)) ((p >>> ((nI 8).toInt64 &&& 63)).toInt32)) ((p >>> ((nI 16).toInt64 &&& 63)).toInt32)) ((p >>> ((nI 24).toInt64 &&& 63)).toInt32) := by
  have e : M_Row_append ro p 4 o = L_Row_append p (nI 4) o (0 + 1 + 1 + 1 + 1 + 1) (nI 0) ro := rfl
  rw [e, ap_go (by omega) (by omega), ap_go (by omega) (by omega), ap_go (by omega) (by omega), ap_go (by omega) (by omega), sh_le ho, sh_le ho, sh_le ho, sh_le ho]
  exact ap_end
theorem FR.two {ro : RowS} {sz : Int32} {bf : Nat → Int32} {z : Nat} (h : FR ro sz bf z) (hz : z + 2 ≤ 65536) (md : Nat → Int32) (v : Int32) : FR (M_Row_append ro v.toInt64 2 (md 3)) (M_Md_two md sz bf v).1 (M_Md_two md sz bf v).2 (z + 2) ∧ G_Md_two md sz bf v := by
  by_cases ho : md 3 = 77
  · have a1 := h.add (by omega) (shr_eq v (k := 8) (by omega))
    have a2 := a1.add (by omega) (shr_0 v)
    unfold M_Md_two G_Md_two
    rw [if_pos ho, if_pos ho, ho, app2_be]
    exact ⟨a2, h.g1 (by omega), fun x hx => by rw [hx]; exact a1.g1 (by omega)⟩
  · have a1 := h.add (by omega) (shr_0 v)
    have a2 := a1.add (by omega) (shr_eq v (k := 8) (by omega))
    unfold M_Md_two G_Md_two
    rw [if_neg ho, if_neg ho, app2_le _ _ ho]
    exact ⟨a2, h.g1 (by omega), fun x hx => by rw [hx]; exact a1.g1 (by omega)⟩
theorem two_be {md : Nat → Int32} (ho : md 3 = 77) (sz : Int32) (bf : Nat → Int32) (v : Int32) : M_Md_two md sz bf v = M_Md_one (M_Md_one sz bf (v >>> ((8 : Int32) &&& 31))).1 (M_Md_one sz bf (v >>> ((8 : Int32) &&& 31))).2 v := by
  unfold M_Md_two
  rw [if_pos ho]
theorem two_le {md : Nat → Int32} (ho : ¬ md 3 = 77) (sz : Int32) (bf : Nat → Int32) (v : Int32) : M_Md_two md sz bf v = M_Md_one (M_Md_one sz bf v).1 (M_Md_one sz bf v).2 (v >>> ((8 : Int32) &&& 31)) := by
  unfold M_Md_two
  rw [if_neg ho]
theorem g_two {md : Nat → Int32} {sz : Int32} {z : Nat} (h : sz = nI z) (hz : z + 2 ≤ 65536) (bf : Nat → Int32) (v : Int32) : G_Md_two md sz bf v := by
  have g : ∀ k, k < 65536 → G_Md_one (nI k) := fun k hk => vp_in_nI hk (by omega)
  unfold G_Md_two
  split
  · exact ⟨by rw [h]; exact g z (by omega), fun x hx => by rw [hx, one_val h (by omega)]; exact g (z + 1) (by omega)⟩
  · exact ⟨by rw [h]; exact g z (by omega), fun x hx => by rw [hx, one_val h (by omega)]; exact g (z + 1) (by omega)⟩
theorem two_sz {md : Nat → Int32} {sz : Int32} {z : Nat} (h : sz = nI z) (hz : z + 2 ≤ 65536) (bf : Nat → Int32) (v : Int32) : (M_Md_two md sz bf v).1 = nI (z + 2) := by
  by_cases ho : md 3 = 77
  · rw [two_be ho, one_val h (by omega), one_val (z := z + 1) rfl (by omega)]
  · rw [two_le ho, one_val h (by omega), one_val (z := z + 1) rfl (by omega)]
theorem g_four {md : Nat → Int32} {sz : Int32} {z : Nat} (h : sz = nI z) (hz : z + 4 ≤ 65536) (bf : Nat → Int32) (v : Int32) : G_Md_four md sz bf v := by
  unfold G_Md_four
  split
  · exact ⟨g_two h (by omega) _ _, fun x hx => g_two (z := z + 2) (by rw [hx]; exact two_sz h (by omega) _ _) (by omega) _ _⟩
  · exact ⟨g_two h (by omega) _ _, fun x hx => g_two (z := z + 2) (by rw [hx]; exact two_sz h (by omega) _ _) (by omega) _ _⟩
theorem FR.four {ro : RowS} {sz : Int32} {bf : Nat → Int32} {z : Nat} (h : FR ro sz bf z) (hz : z + 4 ≤ 65536) (md : Nat → Int32) (v : Int32) : FR (M_Row_append ro v.toInt64 4 (md 3)) (M_Md_four md sz bf v).1 (M_Md_four md sz bf v).2 (z + 4) ∧ G_Md_four md sz bf v := by
  refine ⟨?_, g_four h.2.2.2.1 hz _ _⟩
  by_cases ho : md 3 = 77
  · have a1 := h.add (by omega) (shr_24 v)
    have a2 := a1.add (by omega) (shr_eq v (k := 16) (by omega))
    have a3 := a2.add (by omega) (shr_eq v (k := 8) (by omega))
    have a4 := a3.add (by omega) (shr_0 v)
    unfold M_Md_four
    rw [if_pos ho, ho, app4_be]
    (try dsimp only)
    rw [two_be ho, two_be ho]
    exact a4
  · have a1 := h.add (by omega) (shr_0 v)
    have a2 := a1.add (by omega) (shr_eq v (k := 8) (by omega))
    have a3 := a2.add (by omega) (shr_eq v (k := 16) (by omega))
    have a4 := a3.add (by omega) (shr_24 v)
    unfold M_Md_four
    rw [if_neg ho, app4_le _ _ ho]
    (try dsimp only)
    rw [two_le ho, two_le ho]
    exact a4
/-- both sides take n bytes of a part -/
theorem give_loop {md : Nat → Int32} {p : Int64} {n : Nat} (hn : n ≤ 8) : ∀ (r i f g : Nat) (ro : RowS) (sz : Int32) (bf : Nat → Int32) (z : Nat), i + r = n → r < f → r < g → FR ro sz bf z → z + r ≤ 65536 →
    FR (L_Row_append p (nI n) 77 f (nI i) ro) (L_Md_give md p g (nI r + (-1)) sz bf).2.2.1 (L_Md_give md p g (nI r + (-1)) sz bf).2.2.2 (z + r) ∧ (L_Md_give md p g (nI r + (-1)) sz bf).1 = 1 ∧ (L_Md_give md p g (nI r + (-1)) sz bf).2.1 = upd md 0 0 ∧ GL_Md_give md p g (nI r + (-1)) sz bf := by
  intro r
  induction r with
  | zero =>
    intro i f g ro sz bf z hi hf hg h hz
    obtain ⟨f, rfl⟩ : ∃ f', f = f' + 1 := ⟨f - 1, by omega⟩
    obtain ⟨g, rfl⟩ : ∃ g', g = g' + 1 := ⟨g - 1, by omega⟩
    have hi2 : i = n := by omega
    have e : (nI 0 + (-1)) < 0 := by decide
    rw [hi2, ap_end, L_Md_give, GL_Md_give, if_pos e, if_pos e]
    exact ⟨h, rfl, rfl, trivial⟩
  | succ r ih =>
    intro i f g ro sz bf z hi hf hg h hz
    obtain ⟨f, rfl⟩ : ∃ f', f = f' + 1 := ⟨f - 1, by omega⟩
    obtain ⟨g, rfl⟩ : ∃ g', g = g' + 1 := ⟨g - 1, by omega⟩
    have e0 : nI (r + 1) + (-1) = nI r := pk_m1 r
    have e : ¬ nI r < 0 := nI_pos (by omega)
    have hs : n - 1 - i = r := by omega
    have a := h.add (by omega) (byte_eq p r)
    rw [ap_go (by omega) (by omega), sh_be (by omega), hs, e0, L_Md_give, GL_Md_give, if_neg e, if_neg e]
    obtain ⟨b1, b2, b3, b4⟩ := ih (i + 1) f g _ _ _ (z + 1) (by omega) (by omega) (by omega) a (by omega)
    have ez : z + (r + 1) = z + 1 + r := by omega
    rw [ez]
    exact ⟨b1, b2, b3, h.g1 (by omega), fun x hx => by rw [hx]; exact b4⟩
end PR1
