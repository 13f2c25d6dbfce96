theorem lw_hlt {l : Launch} (hfl : l.flags = flags0) : ∀ e, l.admits e → e.platform.stackTraces = false := by
  intro e ha
  rw [ha.platform]
  show l.stackTraces = false
  unfold Launch.stackTraces
  rw [hfl]
  decide
theorem arr_K {s : State} {A : Array Value} {ty : FieldType} (h : (Cond.arrayClass ty).before A s = true) (hp : refKind ty = false) : ∃ cA, ArrOfT s cA ty ∧ va_RA s cA ty := by
  obtain ⟨cA, kA, comp, h1, h2, h3⟩ := Cond.arrayClass_spec h
  refine ⟨cA, fun n z => ⟨fun k h => (by cases h), kA, h2, comp, h3⟩, ?_⟩
  cases ty <;> first | (simp [refKind] at hp; done) | exact h1
theorem str_R {s : State} {A : Array Value} {own tx : String} {k n : Nat} (hi : (Cond.instantiable own n).before A s = true) (h : (Cond.stringRef own k tx).before A s = true) : ∃ q, vk_R own k tx q s := by
  obtain ⟨cC, kC, hfc, hk, hkind, -⟩ := Cond.instantiable_spec hi
  obtain ⟨k0, cf, i, a, -, -, -, -, -, he⟩ := Cond.stringRef_spec hfc h
  exact ⟨a, vk_R.of h he⟩
set_option maxHeartbeats 4000000 in
set_option maxRecDepth 100000 in
theorem whole_start {p : Program} {e : Env} {s : State} {m : MethodId} {below : List Frame} {meth : Method} {c : Code} (l : Launch) (hlt : ∀ e, l.admits e → e.platform.stackTraces = false) {b L : Nat} {xs : Nat → Int32} (hL : L ≤ 3072) (C0 : lw_At p s m meth c b L xs) : W p l e room_1 s m #[Value.ref b] below meth c s.heap [] 0 0 (lw_Z below #[Value.ref b] s) (entryFrame m ([Value.ref b] : List Value).toArray 8) := by
  obtain ⟨hx, hb, hr, hml, hown, hts, hX, hbl, hlocks, hgv⟩ := id C0
  have hW : Wd BW s := fun w h => wk_of (bw_ok w h) (hts w (bw_tbl w h))
  have hw : ∀ {w : Cond}, w ∈ BW → w.before #[Value.ref b] s = true := fun h => Wd.at bw_ok hW h
  obtain ⟨c0, i0, hKn0⟩ := u_known (C := R_Row) (T := F_Row) (N := 2) (n := 2) hts (fun w h => bw_tbl w (in_Row w h)) (hts (.instantiable R_Row 2) (by decide +kernel))
  obtain ⟨c1, i1, hKn1⟩ := u_known (C := R_St) (T := F_St) (N := 3) (n := 3) hts (fun w h => bw_tbl w (in_St w h)) (hts (.instantiable R_St 3) (by decide +kernel))
  obtain ⟨c2, i2, hKn2⟩ := u_known (C := R_Mk) (T := F_Mk) (N := 14) (n := 14) hts (fun w h => bw_tbl w (in_Mk w h)) (hts (.instantiable R_Mk 14) (by decide +kernel))
  obtain ⟨c3, i3, hKn3⟩ := u_known (C := R_Pn) (T := F_Pn) (N := 1) (n := 1) hts (fun w h => bw_tbl w (in_Pn w h)) (hts (.instantiable R_Pn 1) (by decide +kernel))
  obtain ⟨c4, i4, hKn4⟩ := u_known (C := R_En) (T := F_En) (N := 4) (n := 4) hts (fun w h => bw_tbl w (in_En w h)) (hts (.instantiable R_En 4) (by decide +kernel))
  obtain ⟨c5, i5, hKn5⟩ := u_known (C := R_Rd) (T := F_Rd) (N := 12) (n := 12) hts (fun w h => bw_tbl w (in_Rd w h)) (hts (.instantiable R_Rd 12) (by decide +kernel))
  obtain ⟨c6, i6, hKn6⟩ := u_known (C := R_PF) (T := F_PF) (N := 3) (n := 3) hts (fun w h => bw_tbl w (in_PF w h)) (hts (.instantiable R_PF 3) (by decide +kernel))
  obtain ⟨c7, i7, hKn7⟩ := u_known (C := R_Md) (T := F_Md) (N := 30) (n := 30) hts (fun w h => bw_tbl w (in_Md w h)) (hts (.instantiable R_Md 30) (by decide +kernel))
  obtain ⟨dC, dI, hKc⟩ : ∃ (dC : Nat → ClassId) (dI : Nat → Nat → Nat), ∀ (k : Nat) (q : vw_C), classes[k]? = some q → u_Kn s q.1 q.2.1 q.2.2 (dC k) (dI k) := by
    refine ⟨fun k => match k with | 0 => c0 | 1 => c1 | 2 => c2 | 3 => c3 | 4 => c4 | 5 => c5 | 6 => c6 | _ => c7, fun k => match k with | 0 => i0 | 1 => i1 | 2 => i2 | 3 => i3 | 4 => i4 | 5 => i5 | 6 => i6 | _ => i7, ?_⟩
    intro k q hq
    match k, hq with
    | 0, hq => cases hq; exact hKn0
    | 1, hq => cases hq; exact hKn1
    | 2, hq => cases hq; exact hKn2
    | 3, hq => cases hq; exact hKn3
    | 4, hq => cases hq; exact hKn4
    | 5, hq => cases hq; exact hKn5
    | 6, hq => cases hq; exact hKn6
    | 7, hq => cases hq; exact hKn7
    | k + 8, hq => simp [classes] at hq
  obtain ⟨cB, aB⟩ := arr_K (hw kw_439) rfl
  obtain ⟨cI, aI⟩ := arr_K (hw kw_441) rfl
  obtain ⟨cJ, aJ⟩ := arr_K (hw kw_449) rfl
  have hK : KS classes BW (dC, dI) (TY cB cI cJ) s := by
    refine ⟨⟨hKc, fun k q h => ?_⟩, hW⟩
    match k, h with
    | 0, h => cases h; exact aB
    | 1, h => cases h; exact aI
    | 2, h => cases h; exact aJ
    | k + 3, h => simp [TY] at h
  have hSX : SX TS s := by
    have hs := flat_of_before _ hgv
    refine ⟨fun w hw => ?_, fun x hx => ?_⟩
    · simp only [XW, List.mem_cons, List.not_mem_nil, or_false] at hw
      rcases hw with rfl | rfl | rfl | rfl | rfl
      · exact hs (.isRef (.static Bundle.tN "UNASSIGNED_STACK" Bundle.steD)) (by decide +kernel)
      · exact hs (.isRef (.static Bundle.tN "SUPPRESSED_SENTINEL" Bundle.listD)) (by decide +kernel)
      · exact hts (.laysStatic Bundle.tN "UNASSIGNED_STACK" Bundle.steD) (by decide +kernel)
      · exact hts (.laysStatic Bundle.tN "SUPPRESSED_SENTINEL" Bundle.listD) (by decide +kernel)
      · exact hs (.not (.castable "java/lang/IllegalArgumentException" "java/lang/IllegalStateException")) (by decide +kernel)
    · have hi : (Cond.instantiable "PictureFile" 3).before #[Value.ref b] s = true := hts _ (by decide +kernel)
      simp only [TS, List.mem_cons, List.not_mem_nil, or_false] at hx
      rcases hx with rfl | rfl | rfl | rfl | rfl | rfl | rfl | rfl | rfl | rfl | rfl
      · exact str_R hi (hts (.stringRef "PictureFile" 64 "the order is not 73 or 77") (by decide +kernel))
      · exact str_R hi (hts (.stringRef "PictureFile" 91 "there can be no such page") (by decide +kernel))
      · exact str_R hi (hts (.stringRef "PictureFile" 81 "no page can be begun now") (by decide +kernel))
      · exact str_R hi (hts (.stringRef "PictureFile" 108 "no strip is being made") (by decide +kernel))
      · exact str_R hi (hts (.stringRef "PictureFile" 116 "no page can be closed now") (by decide +kernel))
      · exact str_R hi (hts (.stringRef "PictureFile" 121 "no file can be ended now") (by decide +kernel))
      · exact str_R hi (hts (.stringRef "PictureFile" 123 "a file is being made") (by decide +kernel))
      · exact str_R hi (hts (.stringRef "PictureFile" 143 "no such page or number") (by decide +kernel))
      · exact str_R hi (hts (.stringRef "PictureFile" 160 "no such strip or number") (by decide +kernel))
      · exact str_R hi (hts (.stringRef "PictureFile" 166 "no such byte of a strip") (by decide +kernel))
      · exact str_R hi (hts (.stringRef "PictureFile" 168 "the file has no such byte any more") (by decide +kernel))
  have hl := lv_entry ([.ref b]) (n := 8) (Nat.le_of_ble_eq_true rfl)
  rw [lg_entry_eq]
  exact law_start (A := fun q : Nat => s.heap.size ≤ q) (D := (dC, dI)) hlt hx hb hml hown hK hSX hX hbl (fun _ h => h) (fun _ h => h) hL hr hlocks ag_give gr_Md_give ag_poke gr_Md_poke ag_cut ag_bytes gr_Md_bytes ag_begin gr_Md_begin ag_page gr_Md_page ag_put gr_Md_put ag_strip gr_Md_strip ag_close gr_Md_close ag_end ag_read gr_Md_read ag_fault ag_of gr_Md_of ag_where gr_Md_where ag_dots gr_Md_dots ag_look ⟨fun i j p q h => by simp at h, fun k q h => by simp at h⟩ (fun k q h => by simp at h) va_S.rf hl
set_option maxHeartbeats 4000000 in
theorem lw_walk (l : Launch) (hlt : ∀ e, l.admits e → e.platform.stackTraces = false) (b : Addr) (xs : List Int32) : MetFree l x (headSpec (Jvm.Cond.code x code maxLocals ret :: tables_1) room_1) (lw_P b xs) (fun _ _ _ _ _ => True) lw_Q := by
  refine MetFree.of_bodyS (code := code) (maxLocals := maxLocals) (ret := ret) (by decide) ?_ ?_
  · intro args s m h hn
    obtain ⟨meth, c, h1, h2, h3, h4, h5, h6, -, -⟩ := Cond.code_spec hn (atoms_spec (ws := Jvm.Cond.code x code maxLocals ret :: tables_1) h _ List.mem_cons_self)
    exact ⟨meth, c, h1, h2, h3, h4, h5, h6⟩
  · intro p e s m args below meth c s₁ B hml0 hP _
    obtain ⟨rfl, hx, hbd, hgv⟩ := hP
    obtain ⟨scr, harrAt, hlist, hof, hsmall⟩ := hx
    obtain ⟨hcb, hkn, -, -⟩ := State.arrayAt?_spec harrAt
    have hown : s.vm.findClass R_law = some m.cls := findClass_of_methodNamed B.named
    have hts0 : ∀ c ∈ (Jvm.Cond.code x code maxLocals ret :: tables_1), c.before #[Value.ref b] s = true := atoms_spec (ws := Jvm.Cond.code x code maxLocals ret :: tables_1) B.pre
    have hts : ∀ w ∈ lw_tbl, w.before #[Value.ref b] s = true := k2_hts_sels lw_privs (fun w hw => hts0 w (List.mem_cons_of_mem _ hw)) lw_privs_ok
    have hml : c.maxLocals = 8 := B.maxLocals_eq (hts0 _ List.mem_cons_self)
    have X₀ : Stand p l e room_1 s m #[Value.ref b] below meth c s₁ [] 0 0 := Stand.of_body B
    have hh0 : s₁.heap = s.heap := by rw [B.state]; rfl
    have hsz : scr.slots.size = xs.length := by rw [← Array.length_toList, hlist, List.length_map]
    have hval : ∀ j : Nat, j < xs.length → scr.slots[j]? = some (.int (xs.getD j 0)) := fun j hj => by
      rw [← Array.getElem?_toList, hlist]
      simp [hj]
    have hbl : b < s.heap.size := (Array.getElem?_eq_some_iff.mp hcb).1
    have hX : va_X b xs.length (fun j => xs.getD j 0) s s.heap := ⟨scr, hcb, hof, hkn, hsz, hval⟩
    have K : W p l e room_1 s m #[Value.ref b] below meth c s₁.heap [] 0 0 (lw_Z below #[Value.ref b] s) (entryFrame m ([Value.ref b] : List Value).toArray 8) := by
      rw [hh0]
      exact whole_start l hlt hbd ⟨B.exec, B.bytes, B.returns, hml, hown, hts, hX, hbl, B.notSynchronized, hgv⟩
    obtain ⟨t, a1, o, b1, b2, b3⟩ := K s₁ rfl X₀
    exact ⟨t, o, a1, b1, b2, b3⟩
theorem lw_pre_spec {args : Array Value} {s : State} (h : (Jvm.Cond.and given_1 narrow_1).before args s = true) (hr : rest_1_c.before args s = true) : ∃ (b : Addr) (xs : List Int32), lw_P b xs args s := by
  have hs := flat_of_before _ h
  have hq := flat_of_before _ hr
  have hc : (Cond.count 1).before args s = true := hs _ (by decide +kernel)
  have harr : (Cond.arrayOf (.arg 0) .int).before args s = true := hs _ (by decide +kernel)
  have hle : (Cond.le (.length (.arg 0)) (.int 3072)).before args s = true := hs _ (by decide +kernel)
  have hlen : (Cond.isInt (.length (.arg 0))).before args s = true := hq _ (by decide +kernel)
  have hall : (Cond.all (.arg 0) (.isInt (.elem (.arg 0) (.index 0)))).before args s = true := hq _ (by decide +kernel)
  obtain ⟨b, xs, hb, hx⟩ := State.ints_of_pre rfl harr hlen hall
  have hsm : xs.length < 2 ^ 31 := hx.choose_spec.2.2.2
  have hev : (Term.length (.arg 0)).eval args s none [] s = some (.int xs.length.toInt32) := hx.length_eval hb
  have hv := Cond.le_ints hev (show (Term.int 3072).eval args s none [] s = some (.int 3072) from rfl)
  have hd : xs.length.toInt32 ≤ 3072 := by
    simpa [Cond.before, Cond.holds, hv] using hle
  have hN : xs.length ≤ 3072 := (Int32.ofNat_le_ofNat hsm (by decide)).mp (show Int32.ofNat xs.length ≤ Int32.ofNat 3072 from hd)
  exact ⟨b, xs, Cond.one_arg hc (show args[0]? = some (.ref b) from hb), hx, hN, h⟩
theorem lw_comes (l : Launch) (hlt : ∀ e, l.admits e → e.platform.stackTraces = false) : Comes l x (Jvm.Cond.code x code maxLocals ret :: tables_1) room_1 (fun tb e args s => Calls_1 tb e args s ∧ rest_1 tb e args s ∧ Pre_1 tb e args s)
    (fun _ _ args s o t => lw_Q args s o t) := by
  intro p e ha hc hk s m args below hf hfit hheap happ hpre
  obtain ⟨b, xs, hP⟩ := lw_pre_spec hpre.2.2 hpre.2.1
  obtain ⟨k, o, h1, h2, h3, hQ⟩ := lw_walk l hlt b xs p e ha hc hk s m args below hf ((Spec.applies_iff_loose hf).mp happ).1 hP trivial
  exact ⟨k, o, h1, h2, h3, hQ⟩
theorem lw_frame {s t : State} {o : Outcome} {args : Array Value} (h : Framed s o t [] 601024 7293034) :
    Framed s o t (fieldLocs frame_1_writes args s ++ arrayLocs frame_1_arrays args s ++ staticLocs frame_1_statics s) 601024 7293034 := h
theorem lw_limb (L : Cond) (hL : ∀ (args : Array Value) (s t : State), L.after args s (.returned (some (.int 1))) t = true) :
    ArmFor flags0 classFile x code maxLocals ret World_1 tables_1 room_1 Calls_1 rest_1 Pre_1
      (fun tb e a s o t => postC L tb e a s o t ∧ Framed s o t (fieldLocs frame_1_writes a s ++ arrayLocs frame_1_arrays a s ++ staticLocs frame_1_statics s) 601024 7293034) := by
  intro l hfl _ _ p e ha hc hk s m args below hf hfit hheap happ hpre
  obtain ⟨k, o, h1, h2, h3, rfl, hF⟩ := lw_comes l (lw_hlt hfl) p e ha hc hk s m args below hf hfit hheap happ hpre
  exact ⟨k, _, h1, h2, h3, hL args s _, lw_frame hF⟩
theorem i_vc : Claimed_1_1 ∧ Claimed_1_2 := ⟨lw_limb limb_1_1 (fun args s t => by simp [limb_1_1, Cond.after, Cond.holds, Cond.value]), lw_limb limb_1_2 (fun args s t => Cond.after_iff.mpr (by
  first | (rw [show limb_1_2 = Cond.eq .result (.int 1) from rfl, Cond.eq_ints (x := 1) (y := 1) rfl rfl]; simp; done) | (simp [limb_1_2, Cond.value, Term.eval]; done)))⟩
