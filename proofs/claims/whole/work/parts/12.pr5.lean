section PR5
/-- the number that bytes make, the high first -/
def be (b : Nat → Nat) : Nat → Nat
  | 0 => 0
  | n + 1 => be b n * 256 + b n
/-- the low first -/
def le (b : Nat → Nat) : Nat → Nat
  | 0 => 0
  | n + 1 => le b n + b n * 256 ^ n
theorem be_lt {b : Nat → Nat} : ∀ n, (∀ i, i < n → b i < 256) → be b n < 256 ^ n
  | 0, _ => (by decide : 0 < 256 ^ 0)
  | n + 1, h => by
    have h1 := be_lt n (fun i hi => h i (by omega))
    have h2 := h n (by omega)
    rw [be, Nat.pow_succ]
    omega
theorem le_lt {b : Nat → Nat} : ∀ n, (∀ i, i < n → b i < 256) → le b n < 256 ^ n
  | 0, _ => (by decide : 0 < 256 ^ 0)
  | n + 1, h => by
    have h1 := le_lt n (fun i hi => h i (by omega))
    have h2 : b n * 256 ^ n ≤ 255 * 256 ^ n := Nat.mul_le_mul_right _ (by have := h n (by omega); omega)
    rw [le, Nat.pow_succ]
    omega
theorem p256 (k : Nat) : 2 ^ (8 * k) = 256 ^ k := by rw [Nat.pow_mul]
theorem p256_8 {k : Nat} (h : k ≤ 8) : 256 ^ k ≤ 2 ^ 64 := by
  have : 256 ^ k ≤ 256 ^ 8 := Nat.pow_le_pow_right (by decide) h
  have e : 256 ^ 8 = 2 ^ 64 := by decide
  omega
theorem num_go {ro : RowS} {p : Int64} {n i f : Nat} {o : Int32} {v : Int64} (h : i < n) (hn : n ≤ 8) : L_Row_number ro p (nI n) o (f + 1) (nI i) v = L_Row_number ro p (nI n) o f (nI (i + 1)) (v ||| ((M_Row_at ro (p + (nI i).toInt64)).toInt64 <<< ((M_Row_shiftOf (nI i) (nI n) o).toInt64 &&& 63))) := by
  rw [L_Row_number, if_neg (nI_ge h (by omega)), nI_1]
theorem num_end {ro : RowS} {p : Int64} {n f : Nat} {o : Int32} {v : Int64} : L_Row_number ro p (nI n) o (f + 1) (nI n) v = v := by
  rw [L_Row_number, if_pos (Int32.le_refl _)]
theorem num_be {ro : RowS} {p : Int64} {n : Nat} (hn : n ≤ 8) {b : Nat → Nat} (hb : ∀ i, i < n → b i < 256 ∧ M_Row_at ro (p + (nI i).toInt64) = nI (b i)) : ∀ r i f : Nat, i + r = n → r < f → L_Row_number ro p (nI n) 77 f (nI i) (lN (be b i * 256 ^ (n - i))) = lN (be b n) := by
  intro r
  induction r with
  | zero =>
    intro i f hi hf
    obtain ⟨f, rfl⟩ : ∃ f', f = f' + 1 := ⟨f - 1, by omega⟩
    have e : i = n := by omega
    rw [e, num_end, Nat.sub_self, Nat.pow_zero, Nat.mul_one]
  | succ r ih =>
    intro i f hi hf
    obtain ⟨f, rfl⟩ : ∃ f', f = f' + 1 := ⟨f - 1, by omega⟩
    obtain ⟨h1, h2⟩ := hb i (by omega)
    have h3 := be_lt i (fun j hj => (hb j (by omega)).1)
    have e1 : n - i = n - 1 - i + 1 := by omega
    have e2 : n - (i + 1) = n - 1 - i := by omega
    have a1 : b i * 256 ^ (n - 1 - i) < 256 ^ (n - i) := by
      rw [e1, Nat.pow_succ, Nat.mul_comm]
      exact Nat.mul_lt_mul_of_pos_left h1 (Nat.pow_pos (by decide))
    have a2 : be b i * 256 ^ (n - i) + b i * 256 ^ (n - 1 - i) < 2 ^ 64 := by
      have k1 : be b i * 256 ^ (n - i) + 256 ^ (n - i) ≤ 256 ^ i * 256 ^ (n - i) := by
        rw [← Nat.succ_mul]
        exact Nat.mul_le_mul_right _ h3
      rw [← Nat.pow_add, show i + (n - i) = n by omega] at k1
      have k2 := p256_8 hn
      omega
    rw [num_go (by omega) hn, h2, sh_be (by omega), nI_l (by omega), wb_shl _ (by omega), p256, g_or (k := 8 * (n - i)) (p256 _) a1 a2]
    have e3 : be b i * 256 ^ (n - i) + b i * 256 ^ (n - 1 - i) = be b (i + 1) * 256 ^ (n - (i + 1)) := by
      rw [be, e2, e1, Nat.pow_succ, Nat.add_mul, Nat.mul_comm (256 ^ (n - 1 - i)) 256, ← Nat.mul_assoc]
    rw [e3]
    exact ih (i + 1) f (by omega) (by omega)
theorem num_le {ro : RowS} {p : Int64} {n : Nat} (hn : n ≤ 8) {o : Int32} (ho : ¬ o = 77) {b : Nat → Nat} (hb : ∀ i, i < n → b i < 256 ∧ M_Row_at ro (p + (nI i).toInt64) = nI (b i)) : ∀ r i f : Nat, i + r = n → r < f → L_Row_number ro p (nI n) o f (nI i) (lN (le b i)) = lN (le b n) := by
  intro r
  induction r with
  | zero =>
    intro i f hi hf
    obtain ⟨f, rfl⟩ : ∃ f', f = f' + 1 := ⟨f - 1, by omega⟩
    have e : i = n := by omega
    rw [e, num_end]
  | succ r ih =>
    intro i f hi hf
    obtain ⟨f, rfl⟩ : ∃ f', f = f' + 1 := ⟨f - 1, by omega⟩
    obtain ⟨h1, h2⟩ := hb i (by omega)
    have h3 := le_lt i (fun j hj => (hb j (by omega)).1)
    have h4 := le_lt (i + 1) (fun j hj => (hb j (by omega)).1)
    have k2 := p256_8 (show i + 1 ≤ 8 by omega)
    rw [le] at h4
    rw [num_go (by omega) hn, h2, sh_le ho, nI_l (by omega), wb_shl _ (by omega), p256, Int64.or_comm, g_or (k := 8 * i) (p256 _) h3 (by omega), Nat.add_comm (b i * 256 ^ i) (le b i)]
    exact ih (i + 1) f (by omega) (by omega)
/-- a byte as a number -/
def bv (x : Int32) : Nat := x.toBitVec.toNat % 256
theorem bv_lt (x : Int32) : bv x < 256 := Nat.mod_lt _ (by decide)
theorem bv_and (x : Int32) : x &&& 255 = nI (bv x) := pk_and x 8 rfl
theorem mat_in {bf : Nat → Int32} {m : Nat} (hm : m < 2 ^ 31) : M_Md_at bf (nI m) = nI (bv (bf m)) := by
  unfold M_Md_at
  rw [nI_clamp hm, bv_and]
theorem at_in {ro : RowS} {sz : Int32} {bf : Nat → Int32} {z m : Nat} (h : FR ro sz bf z) (hm : m < z) : M_Row_at ro (lN m) = nI (bv (bf m)) := by
  have hz := h.2.1
  have hle := h.le
  have hb := h.1.le
  unfold M_Row_at
  have c1 : ¬ lg_cmp (lN m) 0 < 0 := by
    rw [lg_cmp_lt]
    intro q
    have q2 : lN m < lN 0 := q
    rw [lN_lt (by omega) (by omega)] at q2
    omega
  have c2 : ¬ 0 ≤ lg_cmp (lN m) ro.2.2.toInt64 := by
    rw [lg_cmp_ge, h.2.2.1, nI_l (by omega), lN_le (by omega) (by omega)]
    omega
  have c3 : ¬ 0 ≤ lg_cmp (lN m) ((nI ro.1).toInt64) := by
    rw [lg_cmp_ge, nI_l (by omega), lN_le (by omega) (by omega)]
    omega
  rw [if_neg c1, if_neg c2, if_neg c3, lN_i, nI_clamp (by omega), ← h.2.2.2.2 m hm, bv_and]
theorem at_out {ro : RowS} {sz : Int32} {bf : Nat → Int32} {z : Nat} (h : FR ro sz bf z) {q : Int64} (hq : q.toInt < 0 ∨ (z : Int) ≤ q.toInt) : M_Row_at ro q = 0 := by
  have hz := h.2.1
  unfold M_Row_at
  by_cases c1 : lg_cmp q 0 < 0
  · rw [if_pos c1]
  · rw [if_neg c1]
    rw [lg_cmp_lt, i64_lt] at c1
    have e0 : (0 : Int64).toInt = 0 := by decide
    rw [e0] at c1
    have c2 : 0 ≤ lg_cmp q ro.2.2.toInt64 := by
      rw [lg_cmp_ge, i64_le, h.2.2.1, nI_l (by omega), lN_toInt (by omega)]
      omega
    rw [if_pos c2]
/-- the byte at a place, 0 where there is none -/
def ab (bf : Nat → Int32) (z m : Nat) : Nat := if m < z then bv (bf m) else 0
theorem ab_lt (bf : Nat → Int32) (z m : Nat) : ab bf z m < 256 := by
  unfold ab
  split
  · exact bv_lt _
  · decide
theorem at_ab {ro : RowS} {sz : Int32} {bf : Nat → Int32} {z m : Nat} (h : FR ro sz bf z) (hm : m < 2 ^ 62) : M_Row_at ro (lN m) = nI (ab bf z m) := by
  unfold ab
  by_cases c : m < z
  · rw [if_pos c]
    exact at_in h c
  · rw [if_neg c, at_out h (Or.inr (by rw [pk_lT (by omega)]; omega))]
    exact nI_zero
theorem num_be' {ro : RowS} {sz : Int32} {bf : Nat → Int32} {z m n : Nat} (h : FR ro sz bf z) (hm : m < 2 ^ 61) (hn : n ≤ 8) : M_Row_number ro (lN m) (nI n) 77 = lN (be (fun i => ab bf z (m + i)) n) := by
  have e0 : (0 : Int32).toInt = 0 := by decide
  have e : M_Row_number ro (lN m) (nI n) 77 = L_Row_number ro (lN m) (nI n) 77 (((nI n).toInt - (0 : Int32).toInt).toNat + 1) (nI 0) (lN (be (fun i => ab bf z (m + i)) 0 * 256 ^ (n - 0))) := by
    show _ = L_Row_number ro (lN m) (nI n) 77 _ _ (lN (0 * 256 ^ (n - 0)))
    rw [Nat.zero_mul]
    rfl
  rw [e, nI_toInt (by omega), e0]
  refine num_be hn (fun i hi => ⟨ab_lt _ _ _, ?_⟩) n 0 _ (by omega) (by omega)
  rw [nI_l (by omega), lN_add]
  exact at_ab h (by omega)
theorem num_le' {ro : RowS} {sz : Int32} {bf : Nat → Int32} {z m n : Nat} (h : FR ro sz bf z) (hm : m < 2 ^ 61) (hn : n ≤ 8) {o : Int32} (ho : ¬ o = 77) : M_Row_number ro (lN m) (nI n) o = lN (le (fun i => ab bf z (m + i)) n) := by
  have e0 : (0 : Int32).toInt = 0 := by decide
  have e : M_Row_number ro (lN m) (nI n) o = L_Row_number ro (lN m) (nI n) o (((nI n).toInt - (0 : Int32).toInt).toNat + 1) (nI 0) (lN (le (fun i => ab bf z (m + i)) 0)) := rfl
  rw [e, nI_toInt (by omega), e0]
  refine num_le hn ho (fun i hi => ⟨ab_lt _ _ _, ?_⟩) n 0 _ (by omega) (by omega)
  rw [nI_l (by omega), lN_add]
  exact at_ab h (by omega)
-- bytes
theorem bytes_step {v : Nat} {x : Nat} (hv : v * 256 + x < 2 ^ 64) (hx : x < 256) : ((lN v <<< ((8 : Int32).toInt64 &&& 63)) ||| lN x) = lN (v * 256 + x) := by
  have e : lN v <<< ((8 : Int32).toInt64 &&& 63) = lN (v * 2 ^ 8) := wb_shl v (k := 8) (by omega)
  rw [e]
  exact g_or (k := 8) rfl hx hv
theorem z64 : (0 : Int32).toInt64 = lN 0 := by decide
theorem bytes_far {md : Nat → Int32} {sz : Int32} {bf : Nat → Int32} {p0 : Int32} (h : p0 < 0 ∨ 8192 ≤ p0) : ∀ r i g : Nat, i + r = 8 → r < g → L_Md_bytes md sz bf p0 g (nI i) (lN 0) = (lN 0, upd md 0 0) ∧ GL_Md_bytes md sz bf p0 g (nI i) (lN 0) := by
  have s0 : ((lN 0 <<< ((8 : Int32).toInt64 &&& 63)) ||| (0 : Int32).toInt64) = lN 0 := by rw [z64]; exact bytes_step (v := 0) (x := 0) (by decide) (by decide)
  intro r
  induction r with
  | zero =>
    intro i g hi hg
    obtain ⟨g, rfl⟩ : ∃ g', g = g' + 1 := ⟨g - 1, by omega⟩
    have e : i = 8 := by omega
    have c : (8 : Int32) ≤ nI 8 := by decide
    rw [e, L_Md_bytes, GL_Md_bytes, if_pos c, if_pos c]
    exact ⟨rfl, trivial⟩
  | succ r ih =>
    intro i g hi hg
    obtain ⟨g, rfl⟩ : ∃ g', g = g' + 1 := ⟨g - 1, by omega⟩
    have c : ¬ (8 : Int32) ≤ nI i := nI_ge (b := 8) (by omega) (by omega)
    obtain ⟨a1, a2⟩ := ih (i + 1) g (by omega) (by omega)
    rw [L_Md_bytes, GL_Md_bytes, if_neg c, if_neg c, nI_1]
    by_cases c1 : p0 < 0
    · rw [if_pos c1, if_pos c1]
      (try dsimp only)
      rw [s0]
      exact ⟨a1, fun y hy => by rw [hy]; exact a2⟩
    · have c2 := h.resolve_left c1
      rw [if_neg c1, if_neg c1, if_pos c2, if_pos c2]
      (try dsimp only)
      rw [s0]
      exact ⟨a1, fun y hy => by rw [hy]; exact a2⟩
theorem bytes_near {md : Nat → Int32} {sz : Int32} {bf : Nat → Int32} {z k : Nat} (hs : sz = nI z) (hz : z ≤ 65536) (hk : k < 8192) : ∀ r i g : Nat, i + r = 8 → r < g → L_Md_bytes md sz bf (nI k) g (nI i) (lN (be (fun i => ab bf z (8 * k + i)) i)) = (lN (be (fun i => ab bf z (8 * k + i)) 8), upd md 0 0) ∧ GL_Md_bytes md sz bf (nI k) g (nI i) (lN (be (fun i => ab bf z (8 * k + i)) i)) := by
  intro r
  induction r with
  | zero =>
    intro i g hi hg
    obtain ⟨g, rfl⟩ : ∃ g', g = g' + 1 := ⟨g - 1, by omega⟩
    have e : i = 8 := by omega
    have c : (8 : Int32) ≤ nI 8 := by decide
    rw [e, L_Md_bytes, GL_Md_bytes, if_pos c, if_pos c]
    exact ⟨rfl, trivial⟩
  | succ r ih =>
    intro i g hi hg
    obtain ⟨g, rfl⟩ : ∃ g', g = g' + 1 := ⟨g - 1, by omega⟩
    have c : ¬ (8 : Int32) ≤ nI i := nI_ge (b := 8) (by omega) (by omega)
    have c1 : ¬ nI k < 0 := nI_pos (by omega)
    have c2 : ¬ (8192 : Int32) ≤ nI k := nI_ge (b := 8192) (by omega) (by omega)
    have hb := be_lt (b := fun i => ab bf z (8 * k + i)) (i + 1) (fun j _ => ab_lt _ _ _)
    have k2 := p256_8 (show i + 1 ≤ 8 by omega)
    obtain ⟨a1, a2⟩ := ih (i + 1) g (by omega) (by omega)
    rw [be] at a1 a2 hb
    have ei : ((8 : Int32) * nI k) + nI i = nI (8 * k + i) := by
      have := pk_mul 8 k
      have e8 : (8 : Int32) * nI k = nI (8 * k) := this
      rw [e8, nI_add]
    rw [L_Md_bytes, GL_Md_bytes, if_neg c, if_neg c, if_neg c1, if_neg c1, if_neg c2, if_neg c2, ei, hs, nI_1]
    by_cases c3 : 8 * k + i < z
    · have d : ¬ nI z ≤ nI (8 * k + i) := nI_ge c3 (by omega)
      have ea : ab bf z (8 * k + i) = bv (bf (8 * k + i)) := if_pos c3
      have st : ((lN (be (fun i => ab bf z (8 * k + i)) i) <<< ((8 : Int32).toInt64 &&& 63)) ||| (M_Md_at bf (nI (8 * k + i))).toInt64) = lN (be (fun i => ab bf z (8 * k + i)) i * 256 + ab bf z (8 * k + i)) := by
        rw [mat_in (by omega), ← ea, nI_l (by have := ab_lt bf z (8 * k + i); omega)]
        exact bytes_step (by omega) (ab_lt _ _ _)
      rw [if_neg d, if_neg d]
      (try dsimp only)
      rw [st]
      refine ⟨by rw [← hs]; exact a1, ?_, fun y hy => by rw [hy, ← hs]; exact a2⟩
      show vp_in (nI (8 * k + i)) 65536
      exact vp_in_nI (by omega) (by omega)
    · have d : nI z ≤ nI (8 * k + i) := nI_le (by omega) (by omega)
      have ea : ab bf z (8 * k + i) = 0 := if_neg c3
      have st : ((lN (be (fun i => ab bf z (8 * k + i)) i) <<< ((8 : Int32).toInt64 &&& 63)) ||| (0 : Int32).toInt64) = lN (be (fun i => ab bf z (8 * k + i)) i * 256 + ab bf z (8 * k + i)) := by
        rw [z64, ea]
        exact bytes_step (by rw [ea] at hb; omega) (by decide)
      rw [if_pos d, if_pos d]
      (try dsimp only)
      rw [st]
      exact ⟨by rw [← hs]; exact a1, fun y hy => by rw [hy, ← hs]; exact a2⟩
theorem be_zero : ∀ n, be (fun _ => 0) n = 0
  | 0 => rfl
  | n + 1 => by rw [be, be_zero n]
theorem bytes_all {ro : RowS} {sz : Int32} {bf : Nat → Int32} {z : Nat} (h : FR ro sz bf z) (md : Nat → Int32) (p0 : Int32) : M_Md_bytes md sz bf p0 = (M_PF_bytes ro p0, upd md 0 0) ∧ G_Md_bytes md sz bf p0 := by
  have hz := h.2.1
  have e0 : (0 : Int32).toInt = 0 := by decide
  have e8 : (8 : Int32).toInt = 8 := by decide
  have far : (p0 < 0 ∨ 8192 ≤ p0) → M_Md_bytes md sz bf p0 = (M_PF_bytes ro p0, upd md 0 0) ∧ G_Md_bytes md sz bf p0 := by
    intro hp
    obtain ⟨a1, a2⟩ := bytes_far (md := md) (sz := sz) (bf := bf) hp 8 0 (((8 : Int32).toInt - (0 : Int32).toInt).toNat + 1) (by omega) (by rw [e0, e8]; decide)
    have hw : M_PF_bytes ro p0 = lN 0 := by
      have e : M_PF_bytes ro p0 = L_Row_number ro (8 * p0.toInt64) (nI 8) 77 (((nI 8).toInt - (0 : Int32).toInt).toNat + 1) (nI 0) (lN (be (fun _ => 0) 0 * 256 ^ (8 - 0))) := by
        show _ = L_Row_number ro _ _ _ _ _ (lN (0 * 256 ^ (8 - 0)))
        rw [Nat.zero_mul]
        rfl
      rw [e, nI_toInt (by omega), e0, num_be (n := 8) (b := fun _ => 0) (by omega) (fun i hi => ⟨by decide, ?_⟩) 8 0 _ (by omega) (by omega), be_zero]
      rw [at_out h ?_]
      · exact nI_zero
      · have t1 : (p0.toInt64).toInt = p0.toInt := Int32.toInt_toInt64 p0
        have t2 : (8 * p0.toInt64 : Int64).toInt = 8 * p0.toInt := by
          rw [Int64.toInt_mul, t1]
          have b1 := p0.le_toInt
          have b2 := p0.toInt_lt
          have t8 : (8 : Int64).toInt = 8 := by decide
          rw [t8]
          exact Int.bmod_eq_of_le (by omega) (by omega)
        have t3 : (8 * p0.toInt64 + (nI i).toInt64 : Int64).toInt = 8 * p0.toInt + i := by
          rw [Int64.toInt_add, t2, Int32.toInt_toInt64, nI_toInt (by omega)]
          have b1 := p0.le_toInt
          have b2 := p0.toInt_lt
          exact Int.bmod_eq_of_le (by omega) (by omega)
        rw [t3]
        rcases hp with hp | hp
        · rw [i32_lt, e0] at hp
          left
          omega
        · rw [i32_le] at hp
          have t9 : (8192 : Int32).toInt = 8192 := by decide
          rw [t9] at hp
          right
          omega
    rw [hw]
    exact ⟨a1, a2⟩
  by_cases c1 : p0 < 0
  · exact far (Or.inl c1)
  by_cases c2 : 8192 ≤ p0
  · exact far (Or.inr c2)
  obtain ⟨k, hk, rfl⟩ := nI_of c1
  have c3 : k < 8192 := by
    have q : ¬ nI 8192 ≤ nI k := c2
    rw [nI_leI (by omega) hk] at q
    omega
  obtain ⟨a1, a2⟩ := bytes_near (md := md) (bf := bf) h.2.2.2.1 hz c3 8 0 (((8 : Int32).toInt - (0 : Int32).toInt).toNat + 1) (by omega) (by rw [e0, e8]; decide)
  have hw : M_PF_bytes ro (nI k) = lN (be (fun i => ab bf z (8 * k + i)) 8) := by
    have e : (8 : Int64) * (nI k).toInt64 = lN (8 * k) := by
      rw [nI_l hk]
      exact lN_mul 8 k
    unfold M_PF_bytes
    rw [e]
    exact num_be' (n := 8) h (by omega) (by omega)
  rw [hw]
  exact ⟨a1, a2⟩
theorem ag_bytes : AG_bytes := by
  intro mk ro st rd nu rs fs md sz fr bf mp ml mn mf sp sl hR p0
  obtain ⟨hro, hst, hrs, hF, hM, hRd⟩ := id hR
  obtain ⟨z, hz⟩ := FR.of hro hF
  rw [(bytes_all hz md p0).1]
  exact ⟨(lg_cmp_eq _ _).mpr rfl, hR⟩
theorem gr_Md_bytes : GR_bytes := by
  intro mk ro st rd nu rs fs md sz fr bf mp ml mn mf sp sl hR p0
  obtain ⟨hro, hst, hrs, hF, hM, hRd⟩ := id hR
  obtain ⟨z, hz⟩ := FR.of hro hF
  exact (bytes_all hz md p0).2
end PR5
