section CATCH
variable {cl : List vw_C} {BW : List Cond} {D : va_G} {tys : List (ClassId × FieldType)}
/-- what the search for a handler gives, and the tables that it leaves -/
def Fnd (e : Env) (s : State) (f : JFrame) (a : Addr) (h : Handler) (vm' : Vm) : Prop :=
  ∀ (Q : Handler → Pre) (E : CtlPost) (d : Bool) (acts : List Action), wp (findHandler f a) Q E e d acts s ↔ Q h d acts (s.setVm vm')
def FndG (e : Env) (s : State) (f : JFrame) (a : Addr) (t : List ExceptionTableEntry) (h : Handler) (vm' : Vm) : Prop :=
  ∀ (Q : Handler → Pre) (E : CtlPost) (d : Bool) (acts : List Action), wp (findHandler.go f a t) Q E e d acts s ↔ Q h d acts (s.setVm vm')
theorem fh_step {Q : Handler → Pre} {E : CtlPost} {e : Env} {d : Bool} {acts : List Action} {s : State} {f : JFrame} {a : Addr} {x : ExceptionTableEntry} {t : List ExceptionTableEntry} {c : ClassId} {cell : Cell} (hx : covers x f.pc = true) (h0 : x.catchType ≠ 0)
    (hl : s.vm.ClassLinks e.platform f.method.cls x.catchType c) (hcell : s.heap[a]? = some cell) (hobj : ∀ k, cell.vm ≠ .statics k) (hk : ∃ k, s.vm.classes[cell.cls]? = some k) (hc : ∃ k, s.vm.classes[c]? = some k) :
    wp (findHandler.go f a (x :: t)) Q E e d acts s ↔
      if s.vm.assignable cell.cls c = true then Q (.found x.handlerPc) d acts (s.setVm (s.vm.noted f.method.cls x.catchType (.cls c))) else wp (findHandler.go f a t) Q E e d acts (s.setVm (s.vm.noted f.method.cls x.catchType (.cls c))) := by
  simp only [covers] at hx
  obtain ⟨ha, ht⟩ := (resolveClass_links e.toSetting hl).op (op := VmOp.resolveClass f.method.cls x.catchType) rfl
  have hal : s.vm.Alike (s.vm.noted f.method.cls x.catchType (.cls c)) := (Vm.Alike.refl s.vm).noted _ _ _
  obtain ⟨k1, hk1⟩ := hk
  obtain ⟨k2, hk2⟩ := hc
  obtain ⟨k1', hk1', -⟩ := hal.2.2 _ _ hk1
  obtain ⟨k2', hk2', -⟩ := hal.2.2 _ _ hk2
  have hs : (s.vm.noted f.method.cls x.catchType (.cls c)).assignable cell.cls c = s.vm.assignable cell.cls c := by rw [hal.assignable]
  cases hfit : s.vm.assignable cell.cls c <;> rw [hfit] at hs <;> simp [findHandler.go, hx, h0, ha, ht, hcell, hobj, hk1', hk2', hs, VmOp.dirties, VmOp.acts]
/-- what the words say of one entry: it links to the class N; E can (or can't) be cast to N -/
theorem fh_words {e : Env} {s S : State} {f : JFrame} {own N E : String} {x : ExceptionTableEntry} {cell : Cell} (hpl : e.platform.magicAccessors = ({} : Platform).magicAccessors) (hW : s.WarmedH S.vm)
    (hown : s.vm.findClass own = some f.method.cls) {A : Array Value} (hlink : (Cond.classLink own x.catchType N).before A s = true) (hE : s.vm.findClass E = some cell.cls) :
    ∃ c, s.vm.findClass N = some c ∧ S.vm.ClassLinks e.platform f.method.cls x.catchType c ∧ (∃ k, S.vm.classes[c]? = some k) ∧ s.WarmedH (S.vm.noted f.method.cls x.catchType (.cls c)) ∧ S.vm.assignable cell.cls c = s.vm.assignable cell.cls c := by
  obtain ⟨c, hc, hcl⟩ := Cond.classLink_spec hown hlink e.platform hpl
  obtain ⟨dk, _, _, kt, hd, _, _, _, _, hkt, _, hopen⟩ := hcl.here
  obtain ⟨kt', hkt', -⟩ := hW.alike.2.2 _ _ hkt
  exact ⟨c, hc, hW.classLinks hcl, ⟨kt', hkt'⟩, hW.noted hd hopen (State.rightAt_cls hcl), by rw [hW.alike.assignable]⟩
/-- the entry that catches -/
theorem fh_catch {e : Env} {s S : State} {f : JFrame} {a : Addr} {own E : String} {x : ExceptionTableEntry} {t : List ExceptionTableEntry} {cell : Cell} (hpl : e.platform.magicAccessors = ({} : Platform).magicAccessors) (hW : s.WarmedH S.vm)
    (hown : s.vm.findClass own = some f.method.cls) {A : Array Value} (hlink : (Cond.classLink own x.catchType E).before A s = true) (hcast : (Cond.castable E E).before A s = true) (hE : s.vm.findClass E = some cell.cls) (hcell : S.heap[a]? = some cell) (hv : cell.vm = .none)
    (hx : covers x f.pc = true) (h0 : x.catchType ≠ 0) : ∃ vm', s.WarmedH vm' ∧ FndG e S f a (x :: t) (.found x.handlerPc) vm' := by
  obtain ⟨c, hc, hcl, hk, hn, hs⟩ := fh_words (N := E) (cell := cell) hpl hW hown hlink hE
  obtain ⟨c3, cT, hc3, hcT, hasg⟩ := Cond.castable_spec hcast
  cases hE.symm.trans hc3
  cases hc.symm.trans hcT
  cases hE.symm.trans hc
  refine ⟨_, hn, fun Q E d acts => ?_⟩
  rw [fh_step hx h0 hcl hcell (fun k h => by rw [hv] at h; cases h) hk hk, if_pos (by rw [hs]; exact hasg)]
/-- an entry that is passed -/
theorem fh_pass {e : Env} {s S : State} {f : JFrame} {a : Addr} {own N E : String} {x : ExceptionTableEntry} {t : List ExceptionTableEntry} {cell : Cell} {h : Handler} (hpl : e.platform.magicAccessors = ({} : Platform).magicAccessors) (hW : s.WarmedH S.vm)
    (hown : s.vm.findClass own = some f.method.cls) {A : Array Value} (hlink : (Cond.classLink own x.catchType N).before A s = true) (hno : (Cond.not (.castable E N)).before A s = true) (hE : s.vm.findClass E = some cell.cls) (hcell : S.heap[a]? = some cell) (hv : cell.vm = .none) (hkE : ∃ k, S.vm.classes[cell.cls]? = some k)
    (hx : covers x f.pc = true) (h0 : x.catchType ≠ 0) (hrest : ∀ vm1, s.WarmedH vm1 → ∃ vm', s.WarmedH vm' ∧ FndG e (S.setVm vm1) f a t h vm') : ∃ vm', s.WarmedH vm' ∧ FndG e S f a (x :: t) h vm' := by
  obtain ⟨c, hc, hcl, hk, hn, hs⟩ := fh_words (N := N) (cell := cell) hpl hW hown hlink hE
  obtain ⟨vm', hW', hq⟩ := hrest _ hn
  have hv2 := Cond.holds_not_iff.mp hno
  simp only [Cond.value, hE, hc] at hv2
  have hasg : s.vm.assignable cell.cls c = false := Option.some.inj hv2
  refine ⟨vm', hW', fun Q E d acts => ?_⟩
  rw [fh_step hx h0 hcl hcell (fun k h => by rw [hv] at h; cases h) hkE hk, if_neg (by rw [hs, hasg]; decide)]
  exact hq Q E d acts
theorem st_catch {e : Env} {s : State} {a : Addr} {f : JFrame} {r : List Frame} {pc : Nat} {vm' : Vm} (hfind : Fnd e s f a (.found pc) vm') :
    (stepThrowing e s a (.java f :: r)).Is ((s.setVm vm').setFrames (.java { f with pc := pc, stack := [.ref a] } :: r)) [] := by
  simp only [stepThrowing, searchFrame, vmDo]
  generalize hr : Sem.go _ e false [] s = res
  obtain ⟨as, rfl, ha⟩ := Sem.eq_ok_of hr (a := Handler.found pc) (s' := s.setVm vm') (acts' := []) (by simp [hfind _ _ _ _])
  exact ⟨rfl, ha⟩
theorem st_frames (u : State) (vm' : Vm) (F G : List Frame) : ((u.setFrames F).setVm vm').setFrames G = (u.setVm vm').setFrames G := by
  rw [show (u.setFrames F).setVm vm' = (u.setVm vm').setFrames F from rfl, State.setFrames_setFrames]
theorem st_caught {tb : Tables} {e : Env} {s target : State} {g : JFrame} {c : Code} {below : List Frame} {a : Addr} (h : At s g.method c below) {pc : Nat} {vm' : Vm}
    (hfind : Fnd e ((s.setTop g).pushFrame (.throwing a)) g a (.found pc) vm') (hrest : Steps tb e below ((s.setVm vm').setTop { g with pc := pc, stack := [.ref a] }) target) :
    Steps tb e below ((s.setTop g).pushFrame (.throwing a)) target := by
  obtain ⟨hgo, hw⟩ := h.throwing a
  refine Steps.head hgo hw ?_
  rw [stepThread_throwing (frames_entered h.top _), (st_catch (s := (s.setTop g).pushFrame (.throwing a)) hfind).1]
  obtain ⟨g₀, hg⟩ := Option.isSome_iff_exists.mp h.top
  obtain ⟨r, hr⟩ := State.topJava?_eq_some.mp hg
  have hr' : (s.setVm vm').frames = .java g₀ :: r := hr
  rw [State.setTop_of_frames _ hr'] at hrest
  rw [hr, List.tail_cons, State.pushFrame, st_frames, State.setTop_of_frames _ hr, st_frames]
  exact hrest
theorem fh_known {s S : State} {E : String} {cell : Cell} {A : Array Value} (hW : s.WarmedH S.vm) (hcast : (Cond.castable E E).before A s = true) (hE : s.vm.findClass E = some cell.cls) : ∃ k, S.vm.classes[cell.cls]? = some k := by
  obtain ⟨k, hk, -⟩ := Vm.findClass_spec hE
  obtain ⟨k', hk', -⟩ := hW.alike.2.2 _ _ hk
  exact ⟨k', hk'⟩
theorem tab_cons {L : List ExceptionTableEntry} {a b h k : Nat} {t : List (Nat × Nat × Nat × Nat)} (ht : L.map (fun h => (h.startPc, h.endPc, h.handlerPc, h.catchType)) = (a, b, h, k) :: t) :
    ∃ x L', L = x :: L' ∧ x.startPc = a ∧ x.endPc = b ∧ x.handlerPc = h ∧ x.catchType = k ∧ L'.map (fun h => (h.startPc, h.endPc, h.handlerPc, h.catchType)) = t := by
  cases L with
  | nil => cases ht
  | cons x L' =>
    simp only [List.map_cons, List.cons.injEq, Prod.mk.injEq] at ht
    exact ⟨x, L', rfl, ht.1.1, ht.1.2.1, ht.1.2.2.1, ht.1.2.2.2, ht.2⟩
/-- what a throw asks of a state goes along where the old cells stand and the tables are warmer -/
theorem xs_lays {s U : State} (hW : s.WarmedH U.vm) (hk : ∀ q : Nat, q < s.heap.size → U.heap[q]? = s.heap[q]?) {O f d : String} {A B : Array Value} (h : (Cond.laysStatic O f d).before A s = true) : (Cond.laysStatic O f d).before B U = true := by
  obtain ⟨c, k, i, fd, a, cell, hc, hf, hst, hsta, hcell, hiss, hcls, hlt, hty⟩ := Cond.laysStatic_spec h
  obtain ⟨k', hf', hk'⟩ := State.fieldFound?_setVm hW.alike hf
  have hf2 : U.fieldFound? O f d = some (c, k', i, fd) := hf'
  have hc2 : U.vm.findClass O = some c := by rw [hW.alike.findClass]; exact hc
  have hcell2 : U.heap[a]? = some cell := by rw [hk a (Array.getElem?_eq_some_iff.mp hcell).1]; exact hcell
  have hs2 : k'.statics = some a := by rw [hk']; exact hsta
  have ht2 : k'.staticTypes[fd.slot]? = some fd.type := by rw [hk']; exact hty
  simp [Cond.before, Cond.holds, Cond.value, hc2, hf2, hst, hs2, hcell2, hiss, hcls, hlt, ht2]
theorem xs_ref {s U : State} (hW : s.WarmedH U.vm) (hk : ∀ q : Nat, q < s.heap.size → U.heap[q]? = s.heap[q]?) {O f d : String} {A B : Array Value} (hl : (Cond.laysStatic O f d).before A s = true) (h : (Cond.isRef (.static O f d)).before A s = true) : (Cond.isRef (.static O f d)).before B U = true := by
  obtain ⟨c, k, i, fd, a, cell, hc, hf, hst, hsta, hcell, hiss, hcls, hlt, hty⟩ := Cond.laysStatic_spec hl
  obtain ⟨k', hf', hk'⟩ := State.fieldFound?_setVm hW.alike hf
  have hf2 : U.fieldFound? O f d = some (c, k', i, fd) := hf'
  have hcell2 : U.heap[a]? = some cell := by rw [hk a (Array.getElem?_eq_some_iff.mp hcell).1]; exact hcell
  have hs2 : k'.statics = some a := by rw [hk']; exact hsta
  have hv : cell.slots[fd.slot]? = some cell.slots[fd.slot] := Array.getElem?_eq_getElem hlt
  have e1 : (Term.static O f d).eval A s none [] s = some cell.slots[fd.slot] := by
    simp [Term.eval, State.fieldNamed?, hf, hst, hsta, hcell, hiss, hv]
  have e2 : (Term.static O f d).eval B U none [] U = some cell.slots[fd.slot] := by
    simp [Term.eval, State.fieldNamed?, hf2, hst, hs2, hcell2, hiss, hv]
  simp only [Cond.before, Cond.holds, Cond.value, e1] at h
  simp only [Cond.before, Cond.holds, Cond.value, e2]
  exact h
theorem xs_not {s U : State} (hW : s.WarmedH U.vm) {a b : String} {A B : Array Value} (h : (Cond.not (.castable a b)).before A s = true) : (Cond.not (.castable a b)).before B U = true := by
  have hv := Cond.holds_not_iff.mp h
  refine Cond.holds_not_iff.mpr ?_
  simp only [Cond.value] at hv ⊢
  simp only [hW.alike.findClass, hW.alike.assignable]
  exact hv
theorem SX.move {ts : List (String × Nat × String)} {s U : State} (h : SX ts s) (hW : s.WarmedH U.vm) (hk : ∀ q : Nat, q < s.heap.size → U.heap[q]? = s.heap[q]?) : SX ts U := by
  refine ⟨fun w hw => ?_, fun x hx => ?_⟩
  · have h1 : ∀ {w : Cond}, w ∈ XW → w.before #[] s = true := fun {w} hw => h.1 w hw
    have a1 : (Cond.laysStatic Bundle.tN "UNASSIGNED_STACK" Bundle.steD).before #[] s = true := h1 (by simp [XW])
    have a2 : (Cond.laysStatic Bundle.tN "SUPPRESSED_SENTINEL" Bundle.listD).before #[] s = true := h1 (by simp [XW])
    have b1 : (Cond.isRef (.static Bundle.tN "UNASSIGNED_STACK" Bundle.steD)).before #[] s = true := h1 (by simp [XW])
    have b2 : (Cond.isRef (.static Bundle.tN "SUPPRESSED_SENTINEL" Bundle.listD)).before #[] s = true := h1 (by simp [XW])
    simp only [XW, List.mem_cons, List.not_mem_nil, or_false] at hw
    have b3 : (Cond.not (.castable "java/lang/IllegalArgumentException" "java/lang/IllegalStateException")).before #[] s = true := h1 (by simp [XW])
    rcases hw with rfl | rfl | rfl | rfl | rfl
    · exact xs_ref hW hk a1 b1
    · exact xs_ref hW hk a2 b2
    · exact xs_lays hW hk a1
    · exact xs_lays hW hk a2
    · exact xs_not hW b3
  · obtain ⟨q, hq⟩ := h.2 x hx
    exact ⟨q, hq.warm hW⟩
section RUNX
variable {p : Program} {l : Launch} {e : Env} {R : Room} {s : State} {m : MethodId} {args : Array Value} {below : List Frame} {meth : Method} {c : Code} {H : Heap} {locs : List Loc} {cells slots : Nat} {Q : State → Prop}
variable {cc bytes : ByteArray} {pc nL maxL n index hpc : Nat} {ls : Array Slot} {rest As : List Value} {A : Nat → Prop} {b : Nat} {ws wc wr : va_W} {H0 : Heap} {y : MethodName} {ret : Option FieldType} {rm : Room} {S : Type} {post : S → Prop} {r : S → Option Value} {w1 : S → va_W} {mc ms : Nat} {own C E : String} {Qc : Array Value → State → Outcome → State → Prop} {free : Addr → Prop} {A' : Nat → Prop} {ts : List (String × Nat × String)}
/-- a call that throws, and the handler in this method that catches it -/
theorem ct_catchV (hH : Hold cl BW D tys p s m c cc nL own) (hM : MetFree l y (headSpec [.code y bytes maxL ret] rm) (PcX cl BW ts D tys (.ref b :: As) wc H.size) (fun _ _ _ _ _ => True) (QcX E)) (hx : Cal y rm R maxL n cells slots)
    (hl : Cond.methodLink own index y ∈ BW) (hcode : Cond.code y bytes maxL ret ∈ BW) (hini : Cond.initialized y.cls ∈ BW) (hinst : Cond.instanceMethod y ∈ BW) (hsel : Cond.selects C y y ∈ BW)
    (hcB : ∃ cellB : Cell, H[b]? = some cellB ∧ cellB.vm.isStatics = false ∧ s.vm.findClass C = some cellB.cls) (hPc : va_P D cl wc H) (hDc : va_D A' wc) (hX : SX ts s) (hkept : ∀ q : Nat, q < s.heap.size → H[q]? = s.heap[q]?)
    (hn : As.length = n) (hsize : ls.size = nL) (hW : (rest.map fun v => v.category).sum ≤ 8) (hdg : decode cc pc = .ok (.invokevirtual index, 3))
    (hfind : ∀ (S : State) (a : Addr) (cell : Cell), e.platform.magicAccessors = ({} : Platform).magicAccessors → s.WarmedH S.vm → S.heap[a]? = some cell → cell.vm = .none → s.vm.findClass E = some cell.cls → ∃ vm', s.WarmedH vm' ∧ FndG e S (F0 m pc ls rest) a c.exceptionTable.toList (.found hpc) vm')
    (kk : ∀ (a : Nat) (H1 : Heap), H.size ≤ H1.size → (∀ q : Nat, q < H.size → H1[q]? = H[q]?) → W p l e R s m args below meth c H1 locs (cells + 1) (slots + 6) Q (F0 m hpc ls [.ref a])) :
    W p l e R s m args below meth c H locs cells slots Q (F0 m pc ls (As.reverse ++ .ref b :: rest)) := by
  obtain ⟨hB, hxe, hb, hml, ho, hK⟩ := id hH
  have w : ∀ {w : Cond}, w ∈ BW → w.before args s = true := fun h => Wd.at hB hK.2 h
  obtain ⟨cellB, h1, h2, h3⟩ := hcB
  intro T hT X
  have hy : y.cls ≠ "java/lang/invoke/MethodHandle" ∧ y.cls ≠ "java/lang/invoke/VarHandle" := ⟨hx.1.1, hx.1.2.1⟩
  obtain ⟨mk, methM, hnamed, hmethM, hstM, habM⟩ := Cond.instanceMethod_spec (w hinst)
  obtain ⟨methM', cM, hmethM', -, -, -, -, -, -, hsigM⟩ := Cond.code_spec hnamed (w hcode)
  cases hmethM.symm.trans hmethM'
  obtain ⟨c2, r2, m2, q1, q2, q3, q4, kP, hkP, hkPi⟩ := Cond.selects_spec (w hsel)
  cases h3.symm.trans q1
  cases (State.methodFound?_of_named hnamed hy).symm.trans q2
  cases hnamed.symm.trans q3
  have hselP : selectMethod e.platform s.vm cellB.cls mk = .method mk := by rw [Launch.admits_selectMethod X.admits]; exact q4
  have hdg' : decode c.code (F0 m pc ls (As.reverse ++ .ref b :: rest)).pc = .ok (.invokevirtual index, 3) := by rw [hb]; exact hdg
  obtain ⟨vm₁, X₁, hstep₁⟩ := X.invokevirtual hxe ho (w hl) hnamed hmethM hstM hkP hkPi hy (a := b) (cell := cellB) (by rw [hT]; exact h1)
    (fun z h => by rw [h] at h2; cases h2) hselP hmethM habM hkP hkPi (g := F0 m pc ls (As.reverse ++ .ref b :: rest)) rfl (argsL := As) (rest := rest) (hn.trans (ct_len hx.1.2.2 _ hsigM)) rfl hdg'
  have hn₁ := X₁.named hnamed
  have hc₁ : (Cond.code y bytes maxL ret).before (Value.ref b :: As).toArray (T.setVm vm₁) = true := word_at X₁.warmed (Or.inl rfl) (w hcode)
  have hi₁ : (Cond.initialized y.cls).before (Value.ref b :: As).toArray (T.setVm vm₁) = true := word_at X₁.warmed (Or.inl (by first | rfl | simp [Cond.onTables, Cond.keeps, Cond.steady])) (w hini)
  obtain ⟨methY, cY, hmY, hcY, -, hlY, -, -, -, -⟩ := Cond.code_spec hn₁ hc₁
  obtain ⟨kY, hkY, -⟩ := className_of_methodNamed hn₁
  have hinitY : kY.init = .initialized := Cond.initialized_spec (findClass_of_methodNamed hn₁) hkY hi₁
  have hg : At (T.setVm vm₁) (F0 m pc ls rest).method c below := X₁.here
  have hWr : 2 * (F0 m pc ls rest).monitorRoom + (rest.map fun v => v.category).sum ≤ 8 := lv_room hW
  have hloc := hx.2.1.2
  have happ : (headSpec [.code y bytes maxL ret] rm).appliesLoose y e.platform ((T.setVm vm₁).calling (F0 m pc ls rest) mk (Value.ref b :: As).toArray) = true :=
    Spec.appliesLoose_calling (g := F0 m pc ls rest) hg hdg' hn₁ hkY hinitY
      (X₁.room_calling (g := F0 m pc ls rest) (R' := rm) (hsize.trans hml.symm) hmY hcY hx.2.1.1 (by rw [hlY]; show 2 * (F0 m pc ls rest).monitorRoom + (rest.map fun v => v.category).sum + _ + _ ≤ _; omega) hx.2.2.1 hx.2.2.2) (atoms_intro fun w hw => by rw [List.mem_singleton.mp hw]; exact hc₁)
  have hPx : PcX cl BW ts D tys (.ref b :: As) wc H.size (Value.ref b :: As).toArray ((T.setVm vm₁).calling (F0 m pc ls rest) mk (Value.ref b :: As).toArray) := by
    have hKw : KS cl BW D tys (T.setVm vm₁) := hK.warm hB X₁.warmed
    have hSX : SX ts ((T.setVm vm₁).calling (F0 m pc ls rest) mk (Value.ref b :: As).toArray) := hX.move X₁.warmed (fun q h => by show T.heap[q]? = _; rw [hT]; exact hkept q h)
    refine ⟨rfl, ?_, ?_, ⟨va_K.moved (u := T.setVm vm₁) (U := (T.setVm vm₁).calling (F0 m pc ls rest) mk (Value.ref b :: As).toArray) (Vm.Alike.refl _) hKw.1, fun w hw => wk_call (hB w hw) (hKw.2 w hw)⟩, hDc.weaken (fun _ _ _ _ => trivial), hSX⟩
    · show T.heap.size = _; rw [hT]
    · show va_P D cl wc T.heap; rw [hT]; exact hPc
  obtain ⟨mid, hmid⟩ := hg.above
  have hfr : ((T.setVm vm₁).setTop (F0 m pc ls rest)).frames = (.java (F0 m pc ls rest) :: mid) ++ below := by rw [State.frames_setTop' _ hg.top, hmid]; rfl
  obtain ⟨o, s₂, hsteps, -, hend, hq⟩ := Steps.callFree hM p X₁.admits X₁.cas X₁.clock (acts := []) hfr happ hPx trivial
  have hq' : QcX E (Value.ref b :: As).toArray ((T.setVm vm₁).calling (F0 m pc ls rest) mk (Value.ref b :: As).toArray) o s₂ := hq
  obtain ⟨x, ce, rfl, hce, hcv, hcc, hWx, hsame⟩ := hq'
  obtain ⟨g₀, hg0⟩ := X₁.frames_eq
  rw [State.frames_setTop' _ hg.top, hg0, List.tail_cons] at hend
  obtain ⟨T', X', hW', hs', ht⟩ := X₁.outOfThrown (g := F0 m pc ls rest) rfl hend hWx hsame
  have hh2 : s₂.heap = T'.heap := by rw [ht, throwing_heap]
  have hEs : s.vm.findClass E = some ce.cls := by rw [← hcc]; exact (X₁.warmed.alike.findClass E none).symm
  obtain ⟨vm', hWv, hf⟩ := hfind ((T'.setTop (F0 m pc ls rest)).pushFrame (.throwing x)) x ce (by rw [X.admits.platform]) (by rw [throwing_vm]; exact X'.warmed) (by rw [throwing_heap, ← hh2]; exact hce) hcv hEs
  rw [List.append_nil] at X'
  have hold : ∀ q : Nat, q < H.size → T'.heap[q]? = H[q]? := by
    intro q hq
    have hTq : (T.setVm vm₁).heap[q]? = some (H[q]) := by show T.heap[q]? = _; rw [hT]; exact Array.getElem?_eq_getElem hq
    obtain ⟨c', k1, k2, k3, k4⟩ := hs'.2.2.2.2.2 q _ hTq
    have k5 : c' = H[q] := by
      rw [k2]
      have : c'.slots = (H[q]).slots := Array.ext_getElem? (fun i => k4 i (by simp))
      rw [this]
    have k6 : T'.heap[q]? = some c' := k1
    rw [k6, k5]
    exact (Array.getElem?_eq_getElem hq).symm
  have hsz : H.size ≤ T'.heap.size := by
    have := hs'.2.1
    have h9 : (T.setVm vm₁).heap.size = H.size := by show T.heap.size = _; rw [hT]
    rw [h9] at this
    exact this
  obtain ⟨t2, a1, b1⟩ := kk x T'.heap hsz hold (T'.setVm vm') rfl (X'.noted hWv)
  have hf' : Fnd e ((T'.setTop (F0 m pc ls rest)).pushFrame (.throwing x)) (F0 m pc ls rest) x (.found hpc) vm' := by
    intro Q E d acts
    rw [W.findHandler_eq (meth := meth) (code := c) (by rw [throwing_vm]; exact X'.method') X'.code]
    exact hf Q E d acts
  refine ⟨t2, hstep₁ _ (fun acts => ?_), b1⟩
  rw [doInvoke_state]
  refine hsteps.trans ?_
  rw [ht]
  exact st_caught X'.here hf' a1
/-- a method with an exception table: its contract -/
def CtW (cl : List vw_C) (BW : List Cond) (ts : List (String × Nat × String)) (l : Launch) (D : va_G) (tys : List (ClassId × FieldType)) (y : MethodName) (cc : ByteArray) (maxL : Nat) (ret : Option FieldType) (hh : List (Nat × Nat × Nat × Nat)) (rm : Room) (av : List Value) (wc : va_W) {S : Type} (post : S → Prop) (r : S → Option Value) (w1 : S → va_W) (mc ms : Nat) : Prop :=
  ∀ sz : Nat, Met l y [.codeWith y cc maxL ret hh] rm (PcX cl BW ts D tys av wc sz) (QcS cl D wc sz post r w1) mc ms (va_A wc sz)
theorem CtW.intro {hh : List (Nat × Nat × Nat × Nat)} {av : List Value}
    (hy : plainName y.cls = true) (hlen : (lg_sl av).length ≤ maxL)
    (body : ∀ (p : Program) (e : Env) (s : State) (m : MethodId) (below : List Frame) (meth : Method) (c : Code), l.admits e → p.tables.exec = Jvm.exec → c.code = cc → meth.sig.returnType = ret → c.maxLocals = maxL → meth.locks = false → c.exceptionTable.toList.map (fun h => (h.startPc, h.endPc, h.handlerPc, h.catchType)) = hh → s.vm.findClass y.cls = some m.cls →
      KS cl BW D tys s → SX ts s → ∀ A : Nat → Prop, A = va_A wc s.heap.size → (∀ q : Nat, s.heap.size ≤ q → A q) → va_S A s.heap s.heap [] → va_P D cl wc s.heap → va_D A wc → ∀ ls : Array Slot, lv_has ls maxL (lv_args 0 av) → ∀ Q : State → Prop, Q = MQ below (QcS cl D wc s.heap.size post r w1) av.toArray s mc ms A →
      W p l e rm s m av.toArray below meth c s.heap [] 0 0 Q (F0 m 0 ls [])) : CtW cl BW ts l D tys y cc maxL ret hh rm av wc post r w1 mc ms := by
  intro sz
  refine va_MetW (cc := cc) (maxL := maxL) (ret := ret) (hh := hh) hy rfl ?_
  intro p e s m args below meth c s₁ B hml hv
  obtain ⟨rfl, hsz, hP, hK, hD0, hX⟩ := hv
  subst hsz
  have hD := hD0.self (sz := s.heap.size)
  have hl := lv_entry av (n := maxL) hlen
  have X₀ := Stand.of_body B
  have htab : c.exceptionTable.toList.map (fun h => (h.startPc, h.endPc, h.handlerPc, h.catchType)) = hh := by
    obtain ⟨m9, meth9, c9, hn9, h1, h2, -, -, h5, -⟩ := Cond.codeWith_spec (atoms_spec (ws := [.codeWith y cc maxL ret hh]) B.pre _ List.mem_cons_self)
    cases B.named.symm.trans hn9
    cases B.method.symm.trans h1
    cases X₀.code.symm.trans h2
    exact h5
  have hb := body p e s m below meth c X₀.admits B.exec B.bytes B.returns hml B.notSynchronized htab (findClass_of_methodNamed B.named) hK hX (va_A wc s.heap.size) rfl (fun q h => Or.inr h) va_S.rf hP hD _ hl _ rfl
  rw [lg_entry_eq]
  exact hb
theorem ct_callSW {T : State} (X : Stand p l e R s m args below meth c T locs cells slots) (hexec : p.tables.exec = Jvm.exec) {hh : List (Nat × Nat × Nat × Nat)}
    (hown : s.vm.findClass own = some m.cls) (hlink : (Cond.methodLink own index y).before args s = true) (hstat : (Cond.static y).before args s = true) (hinit : (Cond.initialized y.cls).before args s = true)
    (hcode : (Cond.codeWith y bytes maxL ret hh).before args s = true) (hy : y.cls ≠ "java/lang/invoke/MethodHandle" ∧ y.cls ≠ "java/lang/invoke/VarHandle")
    {W : Nat} {Pre : Pt → Array Value → Prop} {Post : Pt → Array Value → Option Value → Pt → Prop} (hK : Back l R p e below s args y 3 W Pre Post)
    {g : JFrame} (hg : g.method = m) (hsize : g.locals.size = c.maxLocals) {argsL rest : List Value} (hlen : ∀ sig, parseMethodDescriptor y.desc = some sig → argsL.length = sig.parameters.length)
    (hstack : g.stack = argsL.reverse ++ rest) (hW : 2 * g.monitorRoom + (rest.map fun v => v.category).sum ≤ W) (hdg : decode c.code g.pc = .ok (.invokestatic index, 3))
    (hpre : ∀ vm₁, s.WarmedH vm₁ → Pre ⟨T.setVm vm₁, locs, cells, slots⟩ argsL.toArray) :
    ∃ (v : Option Value) (vm₁ : Vm) (B : Pt), s.WarmedH vm₁ ∧ Stand p l e R s m args below meth c B.U B.locs B.cells B.slots ∧ Post ⟨T.setVm vm₁, locs, cells, slots⟩ argsL.toArray v B ∧
      ∀ target, Steps p.tables e below (B.U.setTop { g with pc := g.pc + 3, stack := v.toList ++ rest }) target → Steps p.tables e below (T.setTop g) target := by
  obtain ⟨mk, methM, cM, hnamed, hmethM, -, -, -, -, -, -, hsigM⟩ := Cond.codeWith_spec hcode
  have hstatic : methM.isStatic = true := Cond.static_spec hnamed hmethM hstat
  obtain ⟨kP, hkP, -⟩ := className_of_methodNamed hnamed
  have hinitP : kP.init = .initialized := Cond.initialized_spec (findClass_of_methodNamed hnamed) hkP hinit
  obtain ⟨vm₁, X₁, hstep₁⟩ := X.invokestatic hexec hown hlink hnamed hmethM hstatic hkP hinitP hy (g := g) hg (argsL := argsL) (rest := rest) (hlen _ hsigM) hstack hdg
  obtain ⟨v, B, X', hpost, hsteps⟩ := hK m meth c ⟨T.setVm vm₁, locs, cells, slots⟩ { g with stack := rest } (.invokestatic index) mk argsL.toArray X₁ hg hsize hdg hW (X₁.named hnamed) (hpre vm₁ X₁.warmed)
  exact ⟨v, vm₁, B, X₁.warmed, X', hpost, fun target h => hstep₁ _ fun acts => by rw [doInvoke_state]; exact hsteps.trans h⟩
theorem PcX.blind (hB : ∀ w ∈ BW, wk_ok w = true) {av : List Value} {sz : Nat} : FrameBlind (PcX cl BW ts D tys av wc sz) := by
  intro a U g mk h
  obtain ⟨h0, h1, hP, hK, hD, hX⟩ := h
  refine ⟨h0, h1, hP, ⟨va_K.moved (u := U) (U := U.calling g mk a) (Vm.Alike.refl U.vm) hK.1, fun w hw => wk_call (hB w hw) (hK.2 w hw)⟩, hD, hX.move (U := U.calling g mk a) (State.WarmedH.refl U) (fun _ _ => rfl)⟩
/-- the law's call of a method with an exception table -/
theorem ct_runSW {hh : List (Nat × Nat × Nat × Nat)} (hH : Hold cl BW D tys p s m c cc nL own) (hM : Met l y [.codeWith y bytes maxL ret hh] rm (PcX cl BW ts D tys As wc H.size) Qc mc ms free) (hx : Cal y rm R maxL n cells slots)
    (hl : Cond.methodLink own index y ∈ BW) (hcode : Cond.codeWith y bytes maxL ret hh ∈ BW) (hini : Cond.initialized y.cls ∈ BW) (hstat : Cond.static y ∈ BW) (hPc : va_P D cl wc H) (hDc : va_D A' wc) (hX : SX ts s) (hkept : ∀ q : Nat, q < s.heap.size → H[q]? = s.heap[q]?)
    (hn : As.length = n) (hsize : ls.size = nL) (hW : (rest.map fun v => v.category).sum ≤ 8) (hdg : decode cc pc = .ok (.invokestatic index, 3)) :
    va_Run p l e R s m args below meth c H locs cells slots mc ms (F0 m pc ls (As.reverse ++ rest)) rest (Qc As.toArray) free := by
  obtain ⟨hB, hxe, hb, hml, ho, hK⟩ := id hH
  have w : ∀ {w : Cond}, w ∈ BW → w.before args s = true := fun h => Wd.at hB hK.2 h
  have hcw : ∀ (a' : Array Value) (U : State), s.WarmedH U.vm → (Cond.codeWith y bytes maxL ret hh).before a' U = true := fun a' U hW => word_at hW (Or.inl rfl) (w hcode)
  have hBk : Back l R p e below s args y 3 8 (fun A a => A.cells + rm.cells ≤ R.cells ∧ A.slots + rm.slots ≤ R.slots ∧ PcX cl BW ts D tys As wc H.size a A.U) (PostOf Qc mc ms free) := by
    refine va_ofFreeW (hh := hh) (S := headSpec [.codeWith y bytes maxL ret hh] rm) (P := PcX cl BW ts D tys As wc H.size) (K := fun _ _ _ _ _ => True) (Q := fun a st o t => Qc a st o t ∧ ∃ L, FrameEnd st o t L mc ms ∧ ∀ q ∈ L, free q.base) (bytes := bytes) (maxL := maxL) (ret := ret)
      (E := fun a st o t L k n => k = mc ∧ n = ms ∧ ∀ q ∈ L, free q.base) hM hx.2.1.1 hx.2.1.2 ?_ ?_ (fun _ _ _ _ _ _ _ _ _ => trivial) ?_ ?_
    · intro m meth c A a X hp
      refine ⟨atoms_intro fun w hw => ?_, hcw _ _ X.warmed, word_at X.warmed (Or.inl (by first | rfl | simp [Cond.onTables, Cond.keeps, Cond.steady])) (w hini), hp.1, hp.2.1⟩
      rw [List.mem_singleton.mp hw]
      exact hcw _ _ X.warmed
    · intro m meth c A a g mk X hp
      exact PcX.blind hB _ _ _ _ hp.2.2
    · intro a st o t ⟨hq, L, hF, hL⟩
      exact ⟨L, mc, ms, hF, rfl, rfl, hL⟩
    · intro m meth c A a g mk v t L k n X hp hq hF ⟨e1, e2, hL⟩
      subst e1; subst e2
      exact ⟨g, mk, t, L, rfl, rfl, hq.1, rfl, hL, rfl, rfl⟩
  intro T hT X
  obtain ⟨v, vm₁, ⟨U', l2, c2, s2⟩, hW₁, X', ⟨g', mk, t, L, e1, e2, hq, h1, hL, h2, h3⟩, st⟩ := ct_callSW X hxe (bytes := bytes) (maxL := maxL) (ret := ret) (hh := hh) ho (w hl) (w hstat) (w hini) (w hcode) ⟨hx.1.1, hx.1.2.1⟩ hBk (g := F0 m pc ls (As.reverse ++ rest)) rfl (hsize.trans hml.symm) (argsL := As) (rest := rest) (fun sig h => hn.trans (ct_len hx.1.2.2 sig h)) rfl (lv_room hW) (by rw [hb]; exact hdg)
    (fun vm₁ hW₁ => ⟨hx.2.2.1, hx.2.2.2, rfl, by show T.heap.size = _; rw [hT], by show va_P D cl wc T.heap; rw [hT]; exact hPc, hK.warm hB hW₁, hDc.weaken (fun _ _ _ _ => trivial), hX.move (U := T.setVm vm₁) hW₁ (fun q h => by show T.heap[q]? = _; rw [hT]; exact hkept q h)⟩)
  dsimp only [Pt.U, Pt.locs, Pt.cells, Pt.slots] at X' e1 e2 h1 h2 h3 st
  subst h1; subst h2; subst h3
  exact ⟨v, (T.setVm vm₁).calling g' mk As.toArray, t, U', L, hT, X', hL, e1, e2, hq, st⟩
end RUNX
end CATCH
