section BASE
/-- words on the tables that a state has, for any arguments -/
def Wd (ws : List Cond) (U : State) : Prop := ∀ w ∈ ws, va_Nw w U
def wk_nest : Cond → Bool
  | .fieldLinkNest .. => true
  | .methodLinkNest .. => true
  | .declares .. => true
  | .castable .. => true
  | _ => false
def wk_ext : Cond → Bool
  | .arrayClass _ => true
  | _ => false
def wk_ok (w : Cond) : Bool := wk_ext w || (w.onTables && (wk_nest w || w.keeps))
theorem wk_warm {w : Cond} (h : wk_ok w = true) {s U : State} (hW : s.WarmedH U.vm) (hZ : va_Nw w s) : va_Nw w U := by
  simp only [wk_ok, Bool.and_eq_true, Bool.or_eq_true] at h
  rcases h with h | ⟨h1, h2 | h2⟩
  · cases w <;> first | (simp [wk_ext] at h; done) | exact word_at hW (Or.inr ⟨_, rfl⟩) hZ
  · cases w <;> first | (simp [wk_nest] at h2; done) | exact va_Nw.warmF hW hZ | exact va_Nw.warmM hW hZ | exact va_Nw.warmD hW hZ | exact va_Nw.warmC hW hZ
  · exact word_at hW (Or.inl (by rw [h1, h2]; rfl)) hZ
theorem wk_use {w : Cond} (h : wk_ok w = true) {U : State} (hZ : va_Nw w U) {A : Array Value} : w.before A U = true := by
  simp only [wk_ok, Bool.and_eq_true, Bool.or_eq_true] at h
  rcases h with h | ⟨h1, -⟩
  · cases w <;> first | (simp [wk_ext] at h; done) | exact hZ
  · exact va_Nw.use h1 hZ
theorem wk_of {w : Cond} (h : wk_ok w = true) {U : State} {A : Array Value} (hZ : w.before A U = true) : va_Nw w U := by
  simp only [wk_ok, Bool.and_eq_true, Bool.or_eq_true] at h
  rcases h with h | ⟨h1, -⟩
  · cases w <;> first | (simp [wk_ext] at h; done) | exact hZ
  · exact va_Nw.of h1 hZ
theorem wk_call {w : Cond} (h : wk_ok w = true) {U : State} {g : JFrame} {mk : MethodId} {a : Array Value} (hZ : va_Nw w U) : va_Nw w (U.calling g mk a) := by
  simp only [wk_ok, Bool.and_eq_true, Bool.or_eq_true] at h
  rcases h with h | ⟨h1, -⟩
  · cases w <;> first | (simp [wk_ext] at h; done) | exact hZ
  · exact va_Nw.same h1 (u := U) (U := U.calling g mk a) rfl hZ
theorem Wd.warm {ws : List Cond} (h : ∀ w ∈ ws, wk_ok w = true) {s U : State} (hW : s.WarmedH U.vm) (hZ : Wd ws s) : Wd ws U := fun w hw => wk_warm (h w hw) hW (hZ w hw)
theorem Wd.at {ws : List Cond} (h : ∀ w ∈ ws, wk_ok w = true) {U : State} (hZ : Wd ws U) {w : Cond} (hw : w ∈ ws) {A : Array Value} : w.before A U = true := wk_use (h w hw) (hZ w hw)
/-- what a state must have: the classes' numbers and slots, the array classes, the words -/
def KS (cl : List vw_C) (BW : List Cond) (D : va_G) (tys : List (ClassId × FieldType)) (U : State) : Prop := va_K D cl tys U ∧ Wd BW U
theorem KS.warm {cl : List vw_C} {BW : List Cond} (hB : ∀ w ∈ BW, wk_ok w = true) {D : va_G} {tys : List (ClassId × FieldType)} {s U : State} (hW : s.WarmedH U.vm) (h : KS cl BW D tys s) : KS cl BW D tys U := ⟨va_K.moved hW.alike h.1, h.2.warm hB hW⟩
/-- the start that a contract asks: arguments av, the cells wc -/
def PcS (cl : List vw_C) (BW : List Cond) (D : va_G) (tys : List (ClassId × FieldType)) (av : List Value) (wc : va_W) (sz : Nat) : Array Value → State → Prop :=
  va_Pc av (fun U => U.heap.size = sz ∧ va_P D cl wc U.heap ∧ KS cl BW D tys U ∧ va_D (fun _ => True) wc)
/-- the end that it promises -/
def QcS (cl : List vw_C) (D : va_G) (wc : va_W) (sz : Nat) {S : Type} (post : S → Prop) (r : S → Option Value) (w1 : S → va_W) : Array Value → State → Outcome → State → Prop :=
  fun _ st oc t => (∃ u : S, oc = .returned (r u) ∧ post u ∧ va_P D cl (w1 u) t.heap ∧ va_D (va_A wc sz) (w1 u)) ∧ va_F (va_A wc sz) st t
def Ct (cl : List vw_C) (BW : List Cond) (l : Launch) (D : va_G) (tys : List (ClassId × FieldType)) (y : MethodName) (cc : ByteArray) (maxL : Nat) (ret : Option FieldType) (rm : Room) (av : List Value) (wc : va_W) {S : Type} (post : S → Prop) (r : S → Option Value) (w1 : S → va_W) (mc ms : Nat) : Prop :=
  ∀ sz : Nat, Met l y [.code y cc maxL ret] rm (PcS cl BW D tys av wc sz) (QcS cl D wc sz post r w1) mc ms (va_A wc sz)
variable {cl : List vw_C} {BW : List Cond} {D : va_G} {tys : List (ClassId × FieldType)}
/-- a contract, from its body -/
theorem Ct.intro {l : Launch} {y : MethodName} {cc : ByteArray} {maxL : Nat} {ret : Option FieldType} {rm : Room} {av : List Value} {wc : va_W} {S : Type} {post : S → Prop} {r : S → Option Value} {w1 : S → va_W} {mc ms : Nat}
    (hy : plainFor y = true) (hlen : (lg_sl av).length ≤ maxL)
    (body : ∀ (p : Program) (e : Env) (s : State) (m : MethodId) (below : List Frame) (meth : Method) (c : Code), p.tables.exec = Jvm.exec → c.code = cc → meth.sig.returnType = ret → c.maxLocals = maxL → meth.locks = false → meth.name = y.name → s.vm.findClass y.cls = some m.cls →
      KS cl BW D tys s → ∀ A : Nat → Prop, A = va_A wc s.heap.size → (∀ q : Nat, s.heap.size ≤ q → A q) → va_S A s.heap s.heap [] → va_P D cl wc s.heap → va_D A wc → ∀ ls : Array Slot, lv_has ls maxL (lv_args 0 av) → ∀ Q : State → Prop, Q = MQ below (QcS cl D wc s.heap.size post r w1) av.toArray s mc ms A →
      W p l e rm s m av.toArray below meth c s.heap [] 0 0 Q (F0 m 0 ls [])) : Ct cl BW l D tys y cc maxL ret rm av wc post r w1 mc ms := by
  intro sz
  refine va_MetF (cc := cc) (maxL := maxL) (ret := ret) hy rfl ?_
  intro p e s m args below meth c s₁ B hml hv
  obtain ⟨rfl, hsz, hP, hK, hD0⟩ := hv
  subst hsz
  have hD := hD0.self (sz := s.heap.size)
  have hl := lv_entry av (n := maxL) hlen
  have hb := body p e s m below meth c B.exec B.bytes B.returns hml B.notSynchronized (name_of_methodNamed B.named B.method).1 (findClass_of_methodNamed B.named) hK (va_A wc s.heap.size) rfl (fun q h => Or.inr h) va_S.rf hP hD _ hl _ rfl
  rw [lg_entry_eq]
  exact hb
theorem PcS.blind (hB : ∀ w ∈ BW, wk_ok w = true) {av : List Value} {wc : va_W} {sz : Nat} : FrameBlind (PcS cl BW D tys av wc sz) := by
  intro a U g mk h
  obtain ⟨h0, h1, hP, hK, hD⟩ := h
  refine ⟨h0, h1, hP, ⟨va_K.moved (u := U) (U := U.calling g mk a) (Vm.Alike.refl U.vm) hK.1, fun w hw => wk_call (hB w hw) (hK.2 w hw)⟩, hD⟩
/-- a method that changes nothing -/
def QcP (r : Option Value) : Array Value → State → Outcome → State → Prop := fun _ st oc t => oc = .returned r ∧ st.heap.size ≤ t.heap.size ∧ ∀ q : Nat, q < st.heap.size → t.heap[q]? = st.heap[q]?
def CtP (cl : List vw_C) (BW : List Cond) (l : Launch) (D : va_G) (tys : List (ClassId × FieldType)) (y : MethodName) (cc : ByteArray) (maxL : Nat) (ret : Option FieldType) (rm : Room) (av : List Value) (wc : va_W) (r : Option Value) : Prop :=
  ∀ sz : Nat, Met l y [.code y cc maxL ret] rm (PcS cl BW D tys av wc sz) (QcP r) 0 0 (fun q => sz ≤ q)
theorem CtP.intro {l : Launch} {y : MethodName} {cc : ByteArray} {maxL : Nat} {ret : Option FieldType} {rm : Room} {av : List Value} {wc : va_W} {r : Option Value}
    (hy : plainFor y = true) (hlen : (lg_sl av).length ≤ maxL)
    (body : ∀ (p : Program) (e : Env) (s : State) (m : MethodId) (below : List Frame) (meth : Method) (c : Code), p.tables.exec = Jvm.exec → c.code = cc → meth.sig.returnType = ret → c.maxLocals = maxL → meth.locks = false → meth.name = y.name → s.vm.findClass y.cls = some m.cls →
      KS cl BW D tys s → va_S (fun q : Nat => s.heap.size ≤ q) s.heap s.heap [] → va_P D cl wc s.heap → va_D (fun _ => True) wc → ∀ ls : Array Slot, lv_has ls maxL (lv_args 0 av) → ∀ Q : State → Prop, Q = MQ below (QcP r) av.toArray s 0 0 (fun q : Nat => s.heap.size ≤ q) →
      W p l e rm s m av.toArray below meth c s.heap [] 0 0 Q (F0 m 0 ls [])) : CtP cl BW l D tys y cc maxL ret rm av wc r := by
  intro sz
  refine va_MetF (cc := cc) (maxL := maxL) (ret := ret) hy rfl ?_
  intro p e s m args below meth c s₁ B hml hv
  obtain ⟨rfl, hsz, hP, hK, hD0⟩ := hv
  subst hsz
  have hl := lv_entry av (n := maxL) hlen
  have hb := body p e s m below meth c B.exec B.bytes B.returns hml B.notSynchronized (name_of_methodNamed B.named B.method).1 (findClass_of_methodNamed B.named) hK va_S.rf hP hD0 _ hl _ rfl
  rw [lg_entry_eq]
  exact hb
theorem ct_backG {l : Launch} {R : Room} {p : Program} {e : Env} {below : List Frame} {s : State} {args : Array Value} {y : MethodName} {cc : ByteArray} {maxL : Nat} {ret : Option FieldType} {rm : Room} {av : List Value} {wc : va_W} {Qc : Array Value → State → Outcome → State → Prop} {free : Addr → Prop} {mc ms sz : Nat}
    (hB : ∀ w ∈ BW, wk_ok w = true) (hM : Met l y [.code y cc maxL ret] rm (PcS cl BW D tys av wc sz) Qc mc ms free) (hR : rm.frames + 1 ≤ R.frames ∧ 8 + (maxL + 11) + rm.locals ≤ R.locals)
    (hcode : (Cond.code y cc maxL ret).before args s = true) (hini : (Cond.initialized y.cls).before args s = true) :
    Back l R p e below s args y 3 8 (fun A a => A.cells + rm.cells ≤ R.cells ∧ A.slots + rm.slots ≤ R.slots ∧ PcS cl BW D tys av wc sz a A.U) (PostOf Qc mc ms free) := by
  have hc : ∀ (a' : Array Value) (U : State), s.WarmedH U.vm → (Cond.code y cc maxL ret).before a' U = true := fun a' U hW => word_at hW (Or.inl rfl) hcode
  refine Back.of_free (S := headSpec [.code y cc maxL ret] rm) (P := PcS cl BW D tys av wc sz) (K := fun _ _ _ _ _ => True) (Q := fun a st o t => Qc a st o t ∧ ∃ L, FrameEnd st o t L mc ms ∧ ∀ q ∈ L, free q.base) (bytes := cc) (maxL := maxL) (ret := ret)
    (E := fun a st o t L k n => k = mc ∧ n = ms ∧ ∀ q ∈ L, free q.base) hM hR.1 hR.2 ?_ ?_ (fun _ _ _ _ _ _ _ _ _ => trivial) ?_ ?_
  · intro m meth c A a X hp
    refine ⟨atoms_intro fun w hw => ?_, hc _ _ X.warmed, word_at X.warmed (Or.inl (by first | rfl | simp [Cond.onTables, Cond.keeps, Cond.steady])) hini, hp.1, hp.2.1⟩
    rw [List.mem_singleton.mp hw]
    exact hc _ _ X.warmed
  · intro m meth c A a g mk X hp
    exact PcS.blind hB _ _ _ _ hp.2.2
  · intro a st o t ⟨hq, L, hF, hL⟩
    exact ⟨L, mc, ms, hF, rfl, rfl, hL⟩
  · intro m meth c A a g mk v t L k n X hp hq hF ⟨e1, e2, hL⟩
    subst e1; subst e2
    exact ⟨g, mk, t, L, rfl, rfl, hq.1, rfl, hL, rfl, rfl⟩
section RUN
variable {p : Program} {l : Launch} {e : Env} {R : Room} {s : State} {m : MethodId} {args : Array Value} {below : List Frame} {meth : Method} {c : Code} {H : Heap} {locs : List Loc} {cells slots : Nat} {Q : State → Prop}
variable {cc bytes : ByteArray} {pc nL maxL n index : Nat} {ls : Array Slot} {rest As : List Value} {A : Nat → Prop} {b : Nat} {ws wc wr : va_W} {H0 : Heap} {y : MethodName} {ret : Option FieldType} {rm : Room} {S : Type} {post : S → Prop} {r : S → Option Value} {w1 : S → va_W} {mc ms : Nat} {own host C : String} {Qc : Array Value → State → Outcome → State → Prop} {free : Addr → Prop} {A' : Nat → Prop}
/-- what a call's place gives -/
def Hold (cl : List vw_C) (BW : List Cond) (D : va_G) (tys : List (ClassId × FieldType)) (p : Program) (s : State) (m : MethodId) (c : Code) (cc : ByteArray) (nL : Nat) (own : String) : Prop :=
  (∀ w ∈ BW, wk_ok w = true) ∧ p.tables.exec = Jvm.exec ∧ c.code = cc ∧ c.maxLocals = nL ∧ s.vm.findClass own = some m.cls ∧ KS cl BW D tys s
theorem ct_fin {st0 : List Value} {a : Array Value} (hr : va_Run p l e R s m args below meth c H locs cells slots mc ms (F0 m pc ls st0) rest (QcS cl D wc H.size post r w1 a) (va_A wc H.size))
    (hP : va_P D cl ws H) (hD : va_D A ws) (hS : va_S A H0 H locs) (hA : ∀ q, H0.size ≤ q → A q) (isC isR : List Nat) (hC : isC.map (fun i => ws[i]?) = wc.map some) (hR : isR.map (fun i => ws[i]?) = wr.map some) (hn : va_nd isR = true) (hdis : ∀ i ∈ isR, i ∉ isC)
    (kk : ∀ (u : S) (H1 : Heap) (locs1 : List Loc), post u → va_P D cl (wr ++ w1 u) H1 → va_D A (wr ++ w1 u) → va_S A H0 H1 locs1 → W p l e R s m args below meth c H1 locs1 (cells + mc) (slots + ms) Q (F0 m (pc + 3) ls ((r u).toList ++ rest))) :
    W p l e R s m args below meth c H locs cells slots Q (F0 m pc ls st0) := by
  have hF := va_free (wc := wc) hD hS hA isC hC
  intro T hT X
  obtain ⟨v, st₀, t, T', L, h0, X', hL, e1, e2, ⟨⟨u, hv, hp, hP1, hD1⟩, hz, hk⟩, st⟩ := hr T hT X
  cases hv
  rw [h0] at hz hk
  have hk' : ∀ q : Nat, q < H.size → ¬ va_A wc H.size q → T'.heap[q]? = H[q]? := fun q h1 h2 => by rw [e1]; exact hk q h1 h2
  obtain ⟨hP2, hD2⟩ := va_join (wr := wr) (w1 := w1 u) hP hD isC isR hC hR hn hdis hk' hF (by rw [e1]; exact hP1) hD1
  obtain ⟨t2, a1, b1⟩ := kk u T'.heap (locs ++ L) hp hP2 hD2
    ⟨Nat.le_trans hS.1 (by rw [e1]; exact hz), fun q h1 h2 => by rw [e1, hk q (Nat.lt_of_lt_of_le h1 hS.1) (fun z => h2 (hF q z))]; exact hS.2.1 q h1 h2, fun q hq => by
      rcases List.mem_append.mp hq with h | h
      · exact hS.2.2 q h
      · exact hF _ (hL q h)⟩ T' rfl X'
  exact ⟨t2, st t2 a1, b1⟩
def Cal (y : MethodName) (rm R : Room) (maxL n cells slots : Nat) : Prop :=
  (y.cls ≠ "java/lang/invoke/MethodHandle" ∧ y.cls ≠ "java/lang/invoke/VarHandle" ∧ (parseMethodDescriptor y.desc).map (fun d => d.parameters.length) = some n) ∧ (rm.frames + 1 ≤ R.frames ∧ 8 + (maxL + 11) + rm.locals ≤ R.locals) ∧ cells + rm.cells ≤ R.cells ∧ slots + rm.slots ≤ R.slots
theorem ct_len {n : Nat} (h : (parseMethodDescriptor y.desc).map (fun d => d.parameters.length) = some n) : ∀ sig, parseMethodDescriptor y.desc = some sig → n = sig.parameters.length := by
  intro sig h1
  rw [h1] at h
  exact (Option.some.inj h).symm
theorem ct_pre (hH : Hold cl BW D tys p s m c cc nL own) {av : List Value} (hPc : va_P D cl wc H) (hDc : va_D A' wc) (U : State) (hU : U.heap = H) (hW : s.WarmedH U.vm) : PcS cl BW D tys av wc H.size av.toArray U :=
  ⟨rfl, by rw [hU], by rw [hU]; exact hPc, hH.2.2.2.2.2.warm hH.1 hW, hDc.weaken (fun _ _ _ _ => trivial)⟩
/-- a call of a nest mate's private method -/
theorem ct_runVN (hH : Hold cl BW D tys p s m c cc nL own) (hM : Met l y [.code y bytes maxL ret] rm (PcS cl BW D tys (.ref b :: As) wc H.size) Qc mc ms free) (hx : Cal y rm R maxL n cells slots)
    (hl : Cond.methodLinkNest own index y host ∈ BW) (hcode : Cond.code y bytes maxL ret ∈ BW) (hini : Cond.initialized y.cls ∈ BW) (hinst : Cond.instanceMethod y ∈ BW) (hsel : Cond.selects C y y ∈ BW)
    (hcB : ∃ cellB : Cell, H[b]? = some cellB ∧ cellB.vm.isStatics = false ∧ s.vm.findClass C = some cellB.cls) (hPc : va_P D cl wc H) (hDc : va_D A' wc)
    (hn : As.length = n) (hsize : ls.size = nL) (hW : (rest.map fun v => v.category).sum ≤ 8) (hdg : decode cc pc = .ok (.invokevirtual index, 3)) :
    va_Run p l e R s m args below meth c H locs cells slots mc ms (F0 m pc ls (As.reverse ++ .ref b :: rest)) rest (Qc (Value.ref b :: As).toArray) free := by
  obtain ⟨hB, hxe, hb, hml, ho, hK⟩ := id hH
  have w : ∀ {w : Cond}, w ∈ BW → w.before args s = true := fun h => Wd.at hB hK.2 h
  have hBk : Back l R p e below s args y 3 8 _ _ := ct_backG (args := args) hB hM hx.2.1 (w hcode) (w hini)
  obtain ⟨cellB, h1, h2, h3⟩ := hcB
  intro T hT X
  obtain ⟨v, vm₁, ⟨U', l2, c2, s2⟩, hW₁, X', ⟨g', mk, t, L, e1, e2, hq, h1, hL, h2, h3⟩, st⟩ := va_callVN X hxe (C := C) (bytes := bytes) (maxL := maxL) (ret := ret) ho (w hl) (w hinst) (w hsel) (w hcode) ⟨hx.1.1, hx.1.2.1⟩ hBk (by rw [hT]; exact h1) h2 h3 (g := F0 m pc ls (As.reverse ++ .ref b :: rest)) rfl (hsize.trans hml.symm) (argsL := As) (rest := rest) (fun sig h => hn.trans (ct_len hx.1.2.2 sig h)) rfl (lv_room hW) (by rw [hb]; exact hdg)
    (fun vm₁ hW₁ => ⟨hx.2.2.1, hx.2.2.2, ct_pre (av := .ref b :: As) hH hPc hDc (T.setVm vm₁) hT hW₁⟩)
  dsimp only [Pt.U, Pt.locs, Pt.cells, Pt.slots] at X' e1 e2 h1 h2 h3 st
  subst h1; subst h2; subst h3
  exact ⟨v, (T.setVm vm₁).calling g' mk (Value.ref b :: As).toArray, t, U', L, hT, X', hL, e1, e2, hq, st⟩
theorem ct_runV (hH : Hold cl BW D tys p s m c cc nL own) (hM : Met l y [.code y bytes maxL ret] rm (PcS cl BW D tys (.ref b :: As) wc H.size) Qc mc ms free) (hx : Cal y rm R maxL n cells slots)
    (hl : Cond.methodLink own index y ∈ BW) (hcode : Cond.code y bytes maxL ret ∈ BW) (hini : Cond.initialized y.cls ∈ BW) (hinst : Cond.instanceMethod y ∈ BW) (hsel : Cond.selects C y y ∈ BW)
    (hcB : ∃ cellB : Cell, H[b]? = some cellB ∧ cellB.vm.isStatics = false ∧ s.vm.findClass C = some cellB.cls) (hPc : va_P D cl wc H) (hDc : va_D A' wc)
    (hn : As.length = n) (hsize : ls.size = nL) (hW : (rest.map fun v => v.category).sum ≤ 8) (hdg : decode cc pc = .ok (.invokevirtual index, 3)) :
    va_Run p l e R s m args below meth c H locs cells slots mc ms (F0 m pc ls (As.reverse ++ .ref b :: rest)) rest (Qc (Value.ref b :: As).toArray) free := by
  obtain ⟨hB, hxe, hb, hml, ho, hK⟩ := id hH
  have w : ∀ {w : Cond}, w ∈ BW → w.before args s = true := fun h => Wd.at hB hK.2 h
  have hBk : Back l R p e below s args y 3 8 _ _ := ct_backG (args := args) hB hM hx.2.1 (w hcode) (w hini)
  obtain ⟨cellB, h1, h2, h3⟩ := hcB
  intro T hT X
  obtain ⟨v, vm₁, ⟨U', l2, c2, s2⟩, hW₁, X', ⟨g', mk, t, L, e1, e2, hq, h1, hL, h2, h3⟩, st⟩ := callV X hxe (C := C) (bytes := bytes) (maxL := maxL) (ret := ret) ho (w hl) (w hinst) (w hsel) (w hcode) ⟨hx.1.1, hx.1.2.1⟩ hBk (by rw [hT]; exact h1) h2 h3 (g := F0 m pc ls (As.reverse ++ .ref b :: rest)) rfl (hsize.trans hml.symm) (argsL := As) (rest := rest) (fun sig h => hn.trans (ct_len hx.1.2.2 sig h)) rfl (lv_room hW) (by rw [hb]; exact hdg)
    (fun vm₁ hW₁ => ⟨hx.2.2.1, hx.2.2.2, ct_pre (av := .ref b :: As) hH hPc hDc (T.setVm vm₁) hT hW₁⟩)
  dsimp only [Pt.U, Pt.locs, Pt.cells, Pt.slots] at X' e1 e2 h1 h2 h3 st
  subst h1; subst h2; subst h3
  exact ⟨v, (T.setVm vm₁).calling g' mk (Value.ref b :: As).toArray, t, U', L, hT, X', hL, e1, e2, hq, st⟩
theorem ct_runSN (hH : Hold cl BW D tys p s m c cc nL own) (hM : Met l y [.code y bytes maxL ret] rm (PcS cl BW D tys As wc H.size) Qc mc ms free) (hx : Cal y rm R maxL n cells slots)
    (hl : Cond.methodLinkNest own index y host ∈ BW) (hcode : Cond.code y bytes maxL ret ∈ BW) (hini : Cond.initialized y.cls ∈ BW) (hstat : Cond.static y ∈ BW) (hPc : va_P D cl wc H) (hDc : va_D A' wc)
    (hn : As.length = n) (hsize : ls.size = nL) (hW : (rest.map fun v => v.category).sum ≤ 8) (hdg : decode cc pc = .ok (.invokestatic index, 3)) :
    va_Run p l e R s m args below meth c H locs cells slots mc ms (F0 m pc ls (As.reverse ++ rest)) rest (Qc As.toArray) free := by
  obtain ⟨hB, hxe, hb, hml, ho, hK⟩ := id hH
  have w : ∀ {w : Cond}, w ∈ BW → w.before args s = true := fun h => Wd.at hB hK.2 h
  have hBk : Back l R p e below s args y 3 8 _ _ := ct_backG (args := args) hB hM hx.2.1 (w hcode) (w hini)
  intro T hT X
  obtain ⟨v, vm₁, ⟨U', l2, c2, s2⟩, hW₁, X', ⟨g', mk, t, L, e1, e2, hq, h1, hL, h2, h3⟩, st⟩ := va_callSN X hxe (bytes := bytes) (maxL := maxL) (ret := ret) ho (w hl) (w hstat) (w hini) (w hcode) ⟨hx.1.1, hx.1.2.1⟩ hBk (g := F0 m pc ls (As.reverse ++ rest)) rfl (hsize.trans hml.symm) (argsL := As) (rest := rest) (fun sig h => hn.trans (ct_len hx.1.2.2 sig h)) rfl (lv_room hW) (by rw [hb]; exact hdg)
    (fun vm₁ hW₁ => ⟨hx.2.2.1, hx.2.2.2, ct_pre (av := As) hH hPc hDc (T.setVm vm₁) hT hW₁⟩)
  dsimp only [Pt.U, Pt.locs, Pt.cells, Pt.slots] at X' e1 e2 h1 h2 h3 st
  subst h1; subst h2; subst h3
  exact ⟨v, (T.setVm vm₁).calling g' mk As.toArray, t, U', L, hT, X', hL, e1, e2, hq, st⟩
theorem ct_runS (hH : Hold cl BW D tys p s m c cc nL own) (hM : Met l y [.code y bytes maxL ret] rm (PcS cl BW D tys As wc H.size) Qc mc ms free) (hx : Cal y rm R maxL n cells slots)
    (hl : Cond.methodLink own index y ∈ BW) (hcode : Cond.code y bytes maxL ret ∈ BW) (hini : Cond.initialized y.cls ∈ BW) (hstat : Cond.static y ∈ BW) (hPc : va_P D cl wc H) (hDc : va_D A' wc)
    (hn : As.length = n) (hsize : ls.size = nL) (hW : (rest.map fun v => v.category).sum ≤ 8) (hdg : decode cc pc = .ok (.invokestatic index, 3)) :
    va_Run p l e R s m args below meth c H locs cells slots mc ms (F0 m pc ls (As.reverse ++ rest)) rest (Qc As.toArray) free := by
  obtain ⟨hB, hxe, hb, hml, ho, hK⟩ := id hH
  have w : ∀ {w : Cond}, w ∈ BW → w.before args s = true := fun h => Wd.at hB hK.2 h
  have hBk : Back l R p e below s args y 3 8 _ _ := ct_backG (args := args) hB hM hx.2.1 (w hcode) (w hini)
  intro T hT X
  obtain ⟨v, vm₁, ⟨U', l2, c2, s2⟩, hW₁, X', ⟨g', mk, t, L, e1, e2, hq, h1, hL, h2, h3⟩, st⟩ := callS X hxe (bytes := bytes) (maxL := maxL) (ret := ret) ho (w hl) (w hstat) (w hini) (w hcode) ⟨hx.1.1, hx.1.2.1⟩ hBk (g := F0 m pc ls (As.reverse ++ rest)) rfl (hsize.trans hml.symm) (argsL := As) (rest := rest) (fun sig h => hn.trans (ct_len hx.1.2.2 sig h)) rfl (lv_room hW) (by rw [hb]; exact hdg)
    (fun vm₁ hW₁ => ⟨hx.2.2.1, hx.2.2.2, ct_pre (av := As) hH hPc hDc (T.setVm vm₁) hT hW₁⟩)
  dsimp only [Pt.U, Pt.locs, Pt.cells, Pt.slots] at X' e1 e2 h1 h2 h3 st
  subst h1; subst h2; subst h3
  exact ⟨v, (T.setVm vm₁).calling g' mk As.toArray, t, U', L, hT, X', hL, e1, e2, hq, st⟩
theorem ct_runIN (hH : Hold cl BW D tys p s m c cc nL own) (hM : Met l y [.code y bytes maxL none] rm (PcS cl BW D tys (.ref b :: As) wc H.size) Qc mc ms free) (hx : Cal y rm R maxL n cells slots) (hy1 : y.name = "<init>")
    (hl : Cond.methodLinkNest own index y host ∈ BW) (hcode : Cond.code y bytes maxL none ∈ BW) (hini : Cond.initialized y.cls ∈ BW) (hinst : Cond.instanceMethod y ∈ BW) (hPc : va_P D cl wc H) (hDc : va_D A' wc)
    (hn : As.length = n) (hsize : ls.size = nL) (hW : (rest.map fun v => v.category).sum ≤ 8) (hdg : decode cc pc = .ok (.invokespecial index, 3)) :
    va_Run p l e R s m args below meth c H locs cells slots mc ms (F0 m pc ls (As.reverse ++ .ref b :: rest)) rest (Qc (Value.ref b :: As).toArray) free := by
  obtain ⟨hB, hxe, hb, hml, ho, hK⟩ := id hH
  have w : ∀ {w : Cond}, w ∈ BW → w.before args s = true := fun h => Wd.at hB hK.2 h
  have hBk : Back l R p e below s args y 3 8 _ _ := ct_backG (args := args) hB hM hx.2.1 (w hcode) (w hini)
  intro T hT X
  obtain ⟨v, vm₁, ⟨U', l2, c2, s2⟩, hW₁, X', ⟨g', mk, t, L, e1, e2, hq, h1, hL, h2, h3⟩, st⟩ := va_callIN X hxe (bytes := bytes) (maxL := maxL) ho hy1 (w hl) (w hinst) (w hcode) ⟨hx.1.1, hx.1.2.1⟩ hBk (g := F0 m pc ls (As.reverse ++ .ref b :: rest)) rfl (hsize.trans hml.symm) (a := b) (argsL := As) (rest := rest) (fun sig h => hn.trans (ct_len hx.1.2.2 sig h)) rfl (lv_room hW) (by rw [hb]; exact hdg)
    (fun vm₁ hW₁ => ⟨hx.2.2.1, hx.2.2.2, ct_pre (av := .ref b :: As) hH hPc hDc (T.setVm vm₁) hT hW₁⟩)
  dsimp only [Pt.U, Pt.locs, Pt.cells, Pt.slots] at X' e1 e2 h1 h2 h3 st
  subst h1; subst h2; subst h3
  exact ⟨v, (T.setVm vm₁).calling g' mk (Value.ref b :: As).toArray, t, U', L, hT, X', hL, e1, e2, hq, st⟩
theorem ct_runI (hH : Hold cl BW D tys p s m c cc nL own) (hM : Met l y [.code y bytes maxL none] rm (PcS cl BW D tys (.ref b :: As) wc H.size) Qc mc ms free) (hx : Cal y rm R maxL n cells slots) (hy1 : y.name = "<init>")
    (hl : Cond.methodLink own index y ∈ BW) (hcode : Cond.code y bytes maxL none ∈ BW) (hini : Cond.initialized y.cls ∈ BW) (hinst : Cond.instanceMethod y ∈ BW) (hPc : va_P D cl wc H) (hDc : va_D A' wc)
    (hn : As.length = n) (hsize : ls.size = nL) (hW : (rest.map fun v => v.category).sum ≤ 8) (hdg : decode cc pc = .ok (.invokespecial index, 3)) :
    va_Run p l e R s m args below meth c H locs cells slots mc ms (F0 m pc ls (As.reverse ++ .ref b :: rest)) rest (Qc (Value.ref b :: As).toArray) free := by
  obtain ⟨hB, hxe, hb, hml, ho, hK⟩ := id hH
  have w : ∀ {w : Cond}, w ∈ BW → w.before args s = true := fun h => Wd.at hB hK.2 h
  have hBk : Back l R p e below s args y 3 8 _ _ := ct_backG (args := args) hB hM hx.2.1 (w hcode) (w hini)
  intro T hT X
  obtain ⟨v, vm₁, ⟨U', l2, c2, s2⟩, hW₁, X', ⟨g', mk, t, L, e1, e2, hq, h1, hL, h2, h3⟩, st⟩ := callI X hxe (bytes := bytes) (maxL := maxL) ho hy1 (w hl) (w hinst) (w hcode) ⟨hx.1.1, hx.1.2.1⟩ hBk (g := F0 m pc ls (As.reverse ++ .ref b :: rest)) rfl (hsize.trans hml.symm) (a := b) (argsL := As) (rest := rest) (fun sig h => hn.trans (ct_len hx.1.2.2 sig h)) rfl (lv_room hW) (by rw [hb]; exact hdg)
    (fun vm₁ hW₁ => ⟨hx.2.2.1, hx.2.2.2, ct_pre (av := .ref b :: As) hH hPc hDc (T.setVm vm₁) hT hW₁⟩)
  dsimp only [Pt.U, Pt.locs, Pt.cells, Pt.slots] at X' e1 e2 h1 h2 h3 st
  subst h1; subst h2; subst h3
  exact ⟨v, (T.setVm vm₁).calling g' mk (Value.ref b :: As).toArray, t, U', L, hT, X', hL, e1, e2, hq, st⟩
/-- behind a call that changes nothing -/
theorem ct_finP {r : Option Value} {st0 : List Value} {a : Array Value} (hr : va_Run p l e R s m args below meth c H locs cells slots 0 0 (F0 m pc ls st0) rest (QcP r a) (fun q => H.size ≤ q))
    (hP : va_P D cl ws H) (hS : va_S A s.heap H locs)
    (kk : ∀ H1 : Heap, va_P D cl ws H1 → va_S A s.heap H1 locs → W p l e R s m args below meth c H1 locs cells slots Q (F0 m (pc + 3) ls (r.toList ++ rest))) :
    W p l e R s m args below meth c H locs cells slots Q (F0 m pc ls st0) := by
  intro T hT X
  obtain ⟨v, st₀, t, T', L, h0, X', hL, e1, e2, ⟨hv, hz, hk⟩, st⟩ := hr T hT X
  cases hv
  rw [h0] at hz hk
  have X2 := X'.forget (fun y hy => Nat.le_trans hS.1 (hL y hy))
  obtain ⟨t2, a1, b1⟩ := kk T'.heap (hP.kept (fun k q h => by rw [e1]; exact hk _ (hP k q h).lt))
    ⟨Nat.le_trans hS.1 (by rw [e1]; exact hz), fun q h1 h2 => by rw [e1, hk q (Nat.lt_of_lt_of_le h1 hS.1)]; exact hS.2.1 q h1 h2, hS.2.2⟩ T' rfl X2
  exact ⟨t2, st t2 a1, b1⟩
theorem ct_p {a : Array Value} {r : Option Value} (hS : va_S (fun q : Nat => s.heap.size ≤ q) s.heap H locs) {v : Option Value} (hv : r = v) (t : State) (ht : t.heap = H) : QcP r a s (.returned v) t := by
  subst hv; subst ht
  exact ⟨rfl, hS.1, fun q h => hS.2.1 q h (Nat.not_le.mpr h)⟩
theorem ct_piret {r : Option Value} {v : Int32} {ty : FieldType} (hx : p.tables.exec = Jvm.exec) (hb : c.code = cc) (hr : meth.sig.returnType = some ty) (hn : narrow ty (.int v) = .int v) (hlocks : meth.locks = false) (hdg : decode cc pc = .ok (.ireturn, 1)) (hQ : Q = MQ below (QcP r) args s 0 0 (fun q : Nat => s.heap.size ≤ q)) (hS : va_S (fun q : Nat => s.heap.size ≤ q) s.heap H locs) (hv : r = some (.int v)) :
    W p l e R s m args below meth c H locs 0 0 Q (F0 m pc ls [.int v]) := by
  subst hQ
  exact W.zret hx hb hr hn (fun t ht _ => ct_p hS hv t ht) hS.2.2 hdg hlocks
theorem ct_plret {r : Option Value} {v : Int64} (hx : p.tables.exec = Jvm.exec) (hb : c.code = cc) (hr : meth.sig.returnType = some .long) (hlocks : meth.locks = false) (hdg : decode cc pc = .ok (.lreturn, 1)) (hQ : Q = MQ below (QcP r) args s 0 0 (fun q : Nat => s.heap.size ≤ q)) (hS : va_S (fun q : Nat => s.heap.size ≤ q) s.heap H locs) (hv : r = some (.long v)) :
    W p l e R s m args below meth c H locs 0 0 Q (F0 m pc ls [.long v]) := by
  subst hQ
  exact W.lret hx hb hr (fun t ht _ => ct_p hS hv t ht) hS.2.2 hdg hlocks
/-- the end of a method -/
theorem ct_q {a : Array Value} (u : S) (hp : post u) (hP : va_P D cl (w1 u) H) (hAe : A = va_A wc s.heap.size) (hD : va_D A (w1 u)) (hS : va_S A s.heap H locs) {v : Option Value} (hv : r u = v) (t : State) (ht : t.heap = H) : QcS cl D wc s.heap.size post r w1 a s (.returned v) t := by
  subst hAe; subst hv
  exact ⟨⟨u, rfl, hp, by rw [ht]; exact hP, hD⟩, hS.F ht⟩
theorem ct_vret (hx : p.tables.exec = Jvm.exec) (hb : c.code = cc) (hr : meth.sig.returnType = none) (hlocks : meth.locks = false) (hdg : decode cc pc = .ok (.return_, 1)) (hc : cells ≤ mc ∧ slots ≤ ms) (hQ : Q = MQ below (QcS cl D wc s.heap.size post r w1) args s mc ms A) (hAe : A = va_A wc s.heap.size) (hS : va_S A s.heap H locs) (u : S) (hv : r u = none) (hp : post u) (hP : va_P D cl (w1 u) H) (hD : va_D A (w1 u)) :
    W p l e R s m args below meth c H locs cells slots Q (F0 m pc ls []) := by
  subst hQ
  exact W.widen hc.1 hc.2 (W.vret hx hb hr (fun t ht _ => ct_q u hp hP hAe hD hS hv t ht) hS.2.2 hdg hlocks)
theorem ct_iret {v : Int32} {ty : FieldType} (hx : p.tables.exec = Jvm.exec) (hb : c.code = cc) (hr : meth.sig.returnType = some ty) (hn : narrow ty (.int v) = .int v) (hlocks : meth.locks = false) (hdg : decode cc pc = .ok (.ireturn, 1)) (hc : cells ≤ mc ∧ slots ≤ ms) (hQ : Q = MQ below (QcS cl D wc s.heap.size post r w1) args s mc ms A) (hAe : A = va_A wc s.heap.size) (hS : va_S A s.heap H locs) (u : S) (hv : r u = some (.int v)) (hp : post u) (hP : va_P D cl (w1 u) H) (hD : va_D A (w1 u)) :
    W p l e R s m args below meth c H locs cells slots Q (F0 m pc ls [.int v]) := by
  subst hQ
  exact W.widen hc.1 hc.2 (W.zret hx hb hr hn (fun t ht _ => ct_q u hp hP hAe hD hS hv t ht) hS.2.2 hdg hlocks)
theorem ct_lret {v : Int64} (hx : p.tables.exec = Jvm.exec) (hb : c.code = cc) (hr : meth.sig.returnType = some .long) (hlocks : meth.locks = false) (hdg : decode cc pc = .ok (.lreturn, 1)) (hc : cells ≤ mc ∧ slots ≤ ms) (hQ : Q = MQ below (QcS cl D wc s.heap.size post r w1) args s mc ms A) (hAe : A = va_A wc s.heap.size) (hS : va_S A s.heap H locs) (u : S) (hv : r u = some (.long v)) (hp : post u) (hP : va_P D cl (w1 u) H) (hD : va_D A (w1 u)) :
    W p l e R s m args below meth c H locs cells slots Q (F0 m pc ls [.long v]) := by
  subst hQ
  exact W.widen hc.1 hc.2 (W.lret hx hb hr (fun t ht _ => ct_q u hp hP hAe hD hS hv t ht) hS.2.2 hdg hlocks)
theorem ct_aret {rt : FieldType} (hx : p.tables.exec = Jvm.exec) (hb : c.code = cc) (hr : meth.sig.returnType = some rt) (hrt : (∃ n, rt = .object n) ∨ ∃ t, rt = .array t) (hlocks : meth.locks = false) (hdg : decode cc pc = .ok (.areturn, 1)) (hc : cells ≤ mc ∧ slots ≤ ms) (hQ : Q = MQ below (QcS cl D wc s.heap.size post r w1) args s mc ms A) (hAe : A = va_A wc s.heap.size) (hS : va_S A s.heap H locs) (u : S) {q : Nat} (hv : r u = some (.ref q)) (hp : post u) (hP : va_P D cl (w1 u) H) (hD : va_D A (w1 u)) :
    W p l e R s m args below meth c H locs cells slots Q (F0 m pc ls [.ref q]) := by
  subst hQ
  exact W.widen hc.1 hc.2 (W.aret hx hb hr hrt (Or.inr ⟨q, rfl⟩) (fun t ht _ => ct_q u hp hP hAe hD hS hv t ht) hS.2.2 hdg hlocks)
/-- a switch that goes its default road -/
theorem lv_tableD (hexec : p.tables.exec = Jvm.exec) (hb : c.code = cc) {dflt lo hi : Int} {offs : Array Int} {len : Nat} {x : Int32} {tgt : Nat} (hdg : decode cc pc = .ok (.tableswitch dflt lo hi offs, len)) (h : x.toInt < lo ∨ hi < x.toInt ∨ offs[(x.toInt - lo).toNat]? = some dflt) (ht : (pc : Int) + dflt = (tgt : Int))
    (k : W p l e R s m args below meth c H locs cells slots Q (F0 m tgt ls rest)) : W p l e R s m args below meth c H locs cells slots Q (F0 m pc ls (.int x :: rest)) := by
  by_cases h1 : x.toInt < lo
  · exact lv_tableOut hexec hb hdg (Or.inl h1) ht k
  · by_cases h2 : hi < x.toInt
    · exact lv_tableOut hexec hb hdg (Or.inr h2) ht k
    · exact lv_tableIn hexec hb hdg h1 h2 (h.resolve_left h1 |>.resolve_left h2) ht k
end RUN
end BASE
section THR
variable {cl : List vw_C} {BW : List Cond} {D : va_G} {tys : List (ClassId × FieldType)}
/-- it threw a new exception of the class E, and changed nothing -/
def QcX (E : String) : Array Value → State → Outcome → State → Prop := fun _ st oc t =>
  ∃ (x : Addr) (ce : Cell), oc = .threw x ∧ t.heap[x]? = some ce ∧ ce.vm = .none ∧ st.vm.findClass E = some ce.cls ∧ st.WarmedH t.vm ∧ st.sameButNew ({ t with vm := st.vm } : State) [] 1 6
def MQX (below : List Frame) (a : Array Value) (s : State) (E : String) : State → Prop := fun t => ∃ o, t.status = .running ∧ Ended t below o ∧ QcX E a s o t
/-- what a throw asks of a state beside the tables: Throwable's two statics, the texts -/
def XW : List Cond := [.isRef (.static Bundle.tN "UNASSIGNED_STACK" Bundle.steD), .isRef (.static Bundle.tN "SUPPRESSED_SENTINEL" Bundle.listD), .laysStatic Bundle.tN "UNASSIGNED_STACK" Bundle.steD, .laysStatic Bundle.tN "SUPPRESSED_SENTINEL" Bundle.listD, .not (.castable "java/lang/IllegalArgumentException" "java/lang/IllegalStateException")]
def SX (ts : List (String × Nat × String)) (U : State) : Prop := (∀ w ∈ XW, w.before #[] U = true) ∧ ∀ x ∈ ts, ∃ q, vk_R x.1 x.2.1 x.2.2 q U
theorem SX.use {ts : List (String × Nat × String)} {U : State} (h : SX ts U) {w : Cond} (hw : w ∈ XW) {A : Array Value} : w.before A U = true := by
  have h1 := h.1 w hw
  simp only [XW, List.mem_cons, List.not_mem_nil, or_false] at hw
  rcases hw with rfl | rfl | rfl | rfl | rfl <;> exact h1
def PcX (cl : List vw_C) (BW : List Cond) (ts : List (String × Nat × String)) (D : va_G) (tys : List (ClassId × FieldType)) (av : List Value) (wc : va_W) (sz : Nat) : Array Value → State → Prop :=
  va_Pc av (fun U => U.heap.size = sz ∧ va_P D cl wc U.heap ∧ KS cl BW D tys U ∧ va_D (fun _ => True) wc ∧ SX ts U)
def CtX (cl : List vw_C) (BW : List Cond) (ts : List (String × Nat × String)) (l : Launch) (D : va_G) (tys : List (ClassId × FieldType)) (y : MethodName) (cc : ByteArray) (maxL : Nat) (ret : Option FieldType) (rm : Room) (av : List Value) (wc : va_W) (E : String) : Prop :=
  ∀ sz : Nat, MetFree l y (headSpec [.code y cc maxL ret] rm) (PcX cl BW ts D tys av wc sz) (fun _ _ _ _ _ => True) (QcX E)
theorem CtX.intro {ts : List (String × Nat × String)} {l : Launch} {y : MethodName} {cc : ByteArray} {maxL : Nat} {ret : Option FieldType} {rm : Room} {av : List Value} {wc : va_W} {E : String}
    (hy : plainFor y = true) (hlen : (lg_sl av).length ≤ maxL)
    (body : ∀ (p : Program) (e : Env) (s : State) (m : MethodId) (below : List Frame) (meth : Method) (c : Code), l.admits e → p.tables.exec = Jvm.exec → c.code = cc → meth.sig.returnType = ret → c.maxLocals = maxL → meth.locks = false → c.exceptionTable.isEmpty = true → s.vm.findClass y.cls = some m.cls →
      KS cl BW D tys s → SX ts s → va_S (fun q : Nat => s.heap.size ≤ q) s.heap s.heap [] → va_P D cl wc s.heap → va_D (fun _ => True) wc → ∀ ls : Array Slot, lv_has ls maxL (lv_args 0 av) → ∀ Q : State → Prop, Q = MQX below av.toArray s E →
      W p l e rm s m av.toArray below meth c s.heap [] 0 0 Q (F0 m 0 ls [])) : CtX cl BW ts l D tys y cc maxL ret rm av wc E := by
  intro sz
  refine MetFree.of_bodySF (code := cc) (maxLocals := maxL) (ret := ret) hy ?_ ?_
  · intro args s m h hn
    obtain ⟨meth, c, h1, h2, h3, h4, h5, h6, -, -⟩ := Cond.code_spec hn (atoms_spec (ws := [.code y cc maxL ret]) h _ List.mem_cons_self)
    exact ⟨meth, c, h1, h2, h3, h4, h5, h6⟩
  · intro p e s m args below meth c s₁ B hml hP _
    obtain ⟨rfl, hsz, hP, hK, hD0, hX⟩ := hP
    subst hsz
    have hh0 : s₁.heap = s.heap := by rw [B.state]; rfl
    have hnx : c.exceptionTable.isEmpty = true := B.noHandlers (atoms_spec (ws := [.code y cc maxL ret]) B.pre _ List.mem_cons_self)
    have hl := lv_entry av (n := maxL) hlen
    have X₀ := Stand.of_body B
    have hb := body p e s m below meth c X₀.admits B.exec B.bytes B.returns hml B.notSynchronized hnx (findClass_of_methodNamed B.named) hK hX va_S.rf hP hD0 _ hl _ rfl
    rw [← lg_entry_eq] at hb
    obtain ⟨t, a1, o, b1, b2, b3⟩ := hb s₁ hh0 X₀
    exact ⟨t, o, a1, b1, b2, b3⟩
theorem ct_throw {p : Program} {l : Launch} {e : Env} {R : Room} {s : State} {m : MethodId} {args : Array Value} {below : List Frame} {meth : Method} {c : Code} {H : Heap} {Q : State → Prop} {cc : ByteArray} {pc nL ia ib ic q : Nat} {ls : Array Slot} {E own text : String} {names : List String}
    (hx : p.tables.exec = Jvm.exec) (hb : c.code = cc) (hml : c.maxLocals = nL) (hsz : ls.size = nL) (hown : s.vm.findClass own = some m.cls) (hlocks : meth.locks = false) (hnx : c.exceptionTable.isEmpty = true) (htr : e.platform.stackTraces = false)
    (hE : Bundle.fit E = true) (hN : ∀ n ∈ names, Bundle.fit n = true) (hat : ∀ a ∈ Bundle.ownAtoms own ic E names, a.before args s = true) (hcl : (Cond.classLink own ia E).before args s = true) (hini : (Cond.initialized E).before args s = true) (hstr : vk_R own ib text q s)
    (d0 : decode cc pc = .ok (.new ia, 3)) (d3 : decode cc (pc + 3) = .ok (.dup, 1)) (d4 : decode cc (pc + 3 + 1) = .ok (.ldc ib, 2)) (d6 : decode cc (pc + 3 + 1 + 2) = .ok (.invokespecial ic, 3)) (d9 : decode cc (pc + 3 + 1 + 2 + 3) = .ok (.athrow, 1))
    (hR : 0 + 1 ≤ R.cells ∧ 0 + 6 ≤ R.slots ∧ names.length + 3 < R.frames ∧ 1 + (13 * (names.length + 1) + 42) ≤ R.locals) (hS : s.heap.size ≤ H.size) (hQ : Q = MQX below args s E) :
    W p l e R s m args below meth c H [] 0 0 Q (F0 m pc ls []) := by
  subst hQ
  intro T hT X
  obtain ⟨vm', cC, kC, hfc, hk, hkind, h6, X2, st1⟩ := X.newCold hx hown hcl (hat (.instantiable E 6) (by simp [Bundle.ownAtoms])) hini (g := F0 m pc ls []) rfl (by rw [hb]; exact d0) hR.1 hR.2.1
  have k3 : W p l e R s m args below meth c ((T.setVm vm').pushCell { cls := cC, slots := kC.instanceTypes.map defaultValue, vm := .none }).heap [] (0 + 1) (0 + 6) (MQX below args s E) (F0 m (pc + 3 + 1 + 2) ls [.ref q, .ref T.heap.size, .ref T.heap.size]) := by
    intro T3 hT3 X3
    obtain ⟨U, h1, h2, h3, h4, h5, ce, h7, h8⟩ := X3.ctorThrowS hx htr hown hE hN hat (fun x hx => by cases hx) hfc hk (a := T.heap.size) (by rw [hT3]; simp [State.pushCell, freshCell]) (by rw [hT]; exact hS) (msg := .ref q) rfl
      (g := F0 m (pc + 3 + 1 + 2) ls [.ref q, .ref T.heap.size, .ref T.heap.size]) rfl (hsz.trans hml.symm) rfl rfl (rest := []) rfl (by rw [hb]; exact d6) (by rw [hb]; exact d9) (fun x hx => by
        have : c.exceptionTable = #[] := Array.isEmpty_iff.mp hnx
        rw [this] at hx
        cases hx) hR.2.2.1 (by show 2 * 0 + (1 + 0) + _ ≤ _; have := hR.2.2.2; omega) hlocks
    exact ⟨U, h1, .threw T.heap.size, h2, h3, T.heap.size, ce, rfl, h7, h8.vm, h8.cls, h4, h5⟩
  have k2 : W p l e R s m args below meth c ((T.setVm vm').pushCell { cls := cC, slots := kC.instanceTypes.map defaultValue, vm := .none }).heap [] (0 + 1) (0 + 6) (MQX below args s E) (F0 m (pc + 3) ls [.ref T.heap.size]) :=
    lv_dup hx hb d3 rfl (va_ldcS hx hb hown hstr d4 k3)
  obtain ⟨t, a1, b1⟩ := k2 _ rfl X2
  exact ⟨t, st1 t a1, b1⟩
end THR
