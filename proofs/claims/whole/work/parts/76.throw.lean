/-! What is thrown and caught: the search for a handler whose class may be unresolved; a call that throws; a new exception thrown -/
theorem go_cold {E : CtlPost} {e : Env} {d : Bool} {acts : List Action} {s : State} {f : JFrame} {a : Addr} {Q : Handler → Pre} {x : ExceptionTableEntry} {t : List ExceptionTableEntry} {c : ClassId} {cell : Cell} {vm' : Vm} (hx : covers x f.pc = true) (h0 : x.catchType ≠ 0)
    (hg : (Jvm.resolveClass f.method.cls x.catchType).Gives e.toSetting s.vm (.ok c) vm') (hsz : vm'.classes.size ≤ s.vm.classes.size)
    (hcell : s.heap[a]? = some cell) (hobj : ∀ k, cell.vm ≠ .statics k) (hk : ∃ k, vm'.classes[cell.cls]? = some k) (hc : ∃ k, vm'.classes[c]? = some k) :
    wp (findHandler.go f a (x :: t)) Q E e d acts s ↔
      if vm'.assignable cell.cls c = true then Q (.found x.handlerPc) d acts (s.setVm vm') else wp (findHandler.go f a t) Q E e d acts (s.setVm vm') := by
  simp only [covers] at hx
  obtain ⟨ha, ht⟩ := hg.op (op := VmOp.resolveClass f.method.cls x.catchType) rfl
  have hcell' : (s.setVm vm').heap[a]? = some cell := hcell
  have hk' : ∃ k, (s.setVm vm').vm.classes[cell.cls]? = some k := hk
  have hc' : ∃ k, (s.setVm vm').vm.classes[c]? = some k := hc
  cases hfit : vm'.assignable cell.cls c
  · have hfit' : (s.setVm vm').vm.assignable cell.cls c = false := hfit
    simp [findHandler.go, hx, h0, ha, ht, hsz, hcell, hobj, hk, hc, hfit, VmOp.dirties, VmOp.acts]
  · have hfit' : (s.setVm vm').vm.assignable cell.cls c = true := hfit
    simp [findHandler.go, hx, h0, ha, ht, hsz, hcell, hobj, hk, hc, hfit, VmOp.dirties, VmOp.acts]
theorem stepThrowing_catchC {e : Env} {s s' : State} {a : Addr} {f : JFrame} {r : List Frame} {pc : Nat} (hfind : ∀ (Q : Handler → Pre) (E : CtlPost) (d : Bool) (acts : List Action), wp (findHandler f a) Q E e d acts s ↔ Q (.found pc) d acts s') :
    (stepThrowing e s a (.java f :: r)).Is (s'.setFrames (.java { f with pc := pc, stack := [.ref a] } :: r)) [] := by
  simp only [stepThrowing, searchFrame, vmDo]
  generalize hr : Sem.go _ e false [] s = res
  obtain ⟨as, rfl, ha⟩ := Sem.eq_ok_of hr (a := Handler.found pc) (s' := s') (acts' := []) (by simp [hfind _ _ _ _])
  exact ⟨rfl, ha⟩
theorem Steps_caughtC {tb : Tables} {e : Env} {s target : State} {g : JFrame} {c : Code} {below : List Frame} {a : Addr} (h : At s g.method c below) {pc : Nat} {vm' : Vm} (hal : s.vm.Alike vm')
    (hfind : ∀ (Q : Handler → Pre) (E : CtlPost) (d : Bool) (acts : List Action), wp (findHandler g a) Q E e d acts ((s.setTop g).pushFrame (.throwing a)) ↔ Q (.found pc) d acts (((s.setTop g).pushFrame (.throwing a)).setVm vm'))
    (hrest : Steps tb e below ((s.setVm vm').setTop { g with pc := pc, stack := [.ref a] }) target) :
    Steps tb e below ((s.setTop g).pushFrame (.throwing a)) target := by
  obtain ⟨hgo, hw⟩ := h.throwing a
  refine Steps.head hgo hw ?_
  rw [stepThread_throwing (frames_entered h.top _), (stepThrowing_catchC (s := (s.setTop g).pushFrame (.throwing a)) hfind).1]
  obtain ⟨g₀, hg⟩ := Option.isSome_iff_exists.mp h.top
  obtain ⟨r, hr⟩ := State.topJava?_eq_some.mp hg
  have hr' : (s.setVm vm').frames = .java g₀ :: r := hr
  rw [State.setTop_of_frames _ hr'] at hrest
  have e1 : ((((s.setTop g).pushFrame (.throwing a)).setVm vm').setFrames (.java { g with pc := pc, stack := [.ref a] } :: s.frames.tail)) = (s.setVm vm').setFrames (.java { g with pc := pc, stack := [.ref a] } :: r) := by
    have e2 : ∀ (S : State) (fs : List Frame), (S.setVm vm').setFrames fs = (S.setFrames fs).setVm vm' := fun _ _ => rfl
    rw [e2, e2, State.pushFrame, State.setFrames_setFrames, State.setTop_of_frames _ hr, State.setFrames_setFrames, hr]
    rfl
  rw [e1]
  exact hrest
/-- the handler's class is found, be it resolved or not -/
theorem Stand_catchL {p : Program} {l : Launch} {e : Env} {R : Room} {s : State} {m : MethodId} {args : Array Value} {below : List Frame} {meth : Method} {c : Code} {T : State} {locs : List Loc} {cells slots : Nat}
    (X : Stand p l e R s m args below meth c T locs cells slots) {own C : String} {x : ExceptionTableEntry} {rest : List ExceptionTableEntry} (hown : s.vm.findClass own = some m.cls)
    (hclink : (Cond.classLink own x.catchType C).before args s = true) (htab : c.exceptionTable.toList = x :: rest) {a : Addr} {g : JFrame} (hg : g.method = m) (hx : covers x g.pc = true) (h0 : x.catchType ≠ 0)
    {cell : Cell} (hcell : T.heap[a]? = some cell) (hobj : cell.vm = .none) (hcls : s.vm.findClass C = some cell.cls) (hself : s.vm.assignable cell.cls cell.cls = true) :
    ∃ vm', Stand p l e R s m args below meth c (T.setVm vm') locs cells slots ∧
      ∀ target, Steps p.tables e below ((T.setVm vm').setTop { g with pc := x.handlerPc, stack := [.ref a] }) target → Steps p.tables e below ((T.setTop g).pushFrame (.throwing a)) target := by
  have hpl : e.platform.magicAccessors = ({} : Platform).magicAccessors := by rw [X.admits.platform]
  obtain ⟨cC, hfcc, hcl⟩ := Cond.classLink_spec hown hclink e.platform hpl
  cases hcls.symm.trans hfcc
  subst hg
  obtain ⟨hg₁, hwarm₁, hready₁⟩ := State.classEntry (e := e) X.warmed hcl
  have hszv : (T.vm.noted g.method.cls x.catchType (.cls cell.cls)).classes.size ≤ T.vm.classes.size := by no_record
  generalize T.vm.noted g.method.cls x.catchType (.cls cell.cls) = vm₁ at hg₁ hwarm₁ hready₁ hszv
  obtain ⟨kC, hkC⟩ := Vm.classAt_of_findClass hcls
  obtain ⟨k₁, hk₁, -⟩ := hwarm₁.alike.2.2 _ _ hkC
  have hass : vm₁.assignable cell.cls cell.cls = true := by rw [hwarm₁.alike.assignable]; exact hself
  refine ⟨vm₁, X.noted hwarm₁, fun target h => ?_⟩
  refine Steps_caughtC (vm' := vm₁) (pc := x.handlerPc) X.here (X.warmed.alike.symm.trans hwarm₁.alike) (fun Q E d acts => ?_) h
  have hm' : ((T.setTop g).pushFrame (.throwing a)).vm.method? g.method = some meth := by
    rw [Stand.throwing_vm]
    exact X.method'
  rw [W.findHandler_eq hm' X.code, htab]
  rw [go_cold (vm' := vm₁) (cell := cell) (c := cell.cls) hx h0 (by rw [Stand.throwing_vm]; exact hg₁) (by rw [Stand.throwing_vm]; exact hszv) (by rw [Stand.throwing_heap]; exact hcell) (fun k => by rw [hobj]; simp) ⟨k₁, hk₁⟩ ⟨k₁, hk₁⟩, if_pos hass]
/-- the first handler's class isn't the object's; the second's is -/
theorem Stand_catchL2 {p : Program} {l : Launch} {e : Env} {R : Room} {s : State} {m : MethodId} {args : Array Value} {below : List Frame} {meth : Method} {c : Code} {T : State} {locs : List Loc} {cells slots : Nat}
    (X : Stand p l e R s m args below meth c T locs cells slots) {own C1 C2 : String} {x1 x2 : ExceptionTableEntry} {rest : List ExceptionTableEntry} (hown : s.vm.findClass own = some m.cls)
    (hclink1 : (Cond.classLink own x1.catchType C1).before args s = true) (hclink2 : (Cond.classLink own x2.catchType C2).before args s = true) (htab : c.exceptionTable.toList = x1 :: x2 :: rest) {a : Addr} {g : JFrame} (hg : g.method = m) (hx1 : covers x1 g.pc = true) (hx2 : covers x2 g.pc = true) (h01 : x1.catchType ≠ 0) (h02 : x2.catchType ≠ 0)
    {cell : Cell} (hcell : T.heap[a]? = some cell) (hobj : cell.vm = .none) (hcls : s.vm.findClass C2 = some cell.cls) (hself : s.vm.assignable cell.cls cell.cls = true) (hno : ∀ c1, s.vm.findClass C1 = some c1 → s.vm.assignable cell.cls c1 = false) :
    ∃ vm', Stand p l e R s m args below meth c (T.setVm vm') locs cells slots ∧
      ∀ target, Steps p.tables e below ((T.setVm vm').setTop { g with pc := x2.handlerPc, stack := [.ref a] }) target → Steps p.tables e below ((T.setTop g).pushFrame (.throwing a)) target := by
  have hpl : e.platform.magicAccessors = ({} : Platform).magicAccessors := by rw [X.admits.platform]
  obtain ⟨c1, hf1, hcl1⟩ := Cond.classLink_spec hown hclink1 e.platform hpl
  obtain ⟨cC, hfcc, hcl2⟩ := Cond.classLink_spec hown hclink2 e.platform hpl
  cases hcls.symm.trans hfcc
  subst hg
  obtain ⟨hg₁, hwarm₁, hready₁⟩ := State.classEntry (e := e) X.warmed hcl1
  have hszv : (T.vm.noted g.method.cls x1.catchType (.cls c1)).classes.size ≤ T.vm.classes.size := by no_record
  generalize T.vm.noted g.method.cls x1.catchType (.cls c1) = vm₁ at hg₁ hwarm₁ hready₁ hszv
  have X₁ := X.noted hwarm₁
  obtain ⟨hg₂, hwarm₂, hready₂⟩ := State.classEntry (e := e) X₁.warmed hcl2
  have hszv2 : ((T.setVm vm₁).vm.noted g.method.cls x2.catchType (.cls cell.cls)).classes.size ≤ (T.setVm vm₁).vm.classes.size := by no_record
  generalize (T.setVm vm₁).vm.noted g.method.cls x2.catchType (.cls cell.cls) = vm₂ at hg₂ hwarm₂ hready₂ hszv2
  obtain ⟨kC, hkC⟩ := Vm.classAt_of_findClass hcls
  obtain ⟨k1, hk1⟩ := Vm.classAt_of_findClass hf1
  obtain ⟨ka, hka, -⟩ := hwarm₁.alike.2.2 _ _ hkC
  obtain ⟨kb, hkb, -⟩ := hwarm₁.alike.2.2 _ _ hk1
  obtain ⟨kd, hkd, -⟩ := hwarm₂.alike.2.2 _ _ hkC
  have hass1 : vm₁.assignable cell.cls c1 = false := by rw [hwarm₁.alike.assignable]; exact hno c1 hf1
  have hass2 : vm₂.assignable cell.cls cell.cls = true := by rw [hwarm₂.alike.assignable]; exact hself
  refine ⟨vm₂, X.noted hwarm₂, fun target h => ?_⟩
  refine Steps_caughtC (vm' := vm₂) (pc := x2.handlerPc) X.here (X.warmed.alike.symm.trans hwarm₂.alike) (fun Q E d acts => ?_) h
  have hm' : ((T.setTop g).pushFrame (.throwing a)).vm.method? g.method = some meth := by
    rw [Stand.throwing_vm]
    exact X.method'
  rw [W.findHandler_eq hm' X.code, htab]
  rw [go_cold (vm' := vm₁) (cell := cell) (c := c1) hx1 h01 (by rw [Stand.throwing_vm]; exact hg₁) (by rw [Stand.throwing_vm]; exact hszv) (by rw [Stand.throwing_heap]; exact hcell) (fun k => by rw [hobj]; simp) ⟨ka, hka⟩ ⟨kb, hkb⟩, if_neg (by rw [hass1]; decide)]
  have hcell2 : (((T.setTop g).pushFrame (.throwing a)).setVm vm₁).heap[a]? = some cell := by
    show ((T.setTop g).pushFrame (.throwing a)).heap[a]? = some cell
    rw [Stand.throwing_heap]
    exact hcell
  rw [go_cold (s := ((T.setTop g).pushFrame (.throwing a)).setVm vm₁) (vm' := vm₂) (cell := cell) (c := cell.cls) hx2 h02 hg₂ hszv2 hcell2 (fun k => by rw [hobj]; simp) ⟨kd, hkd⟩ ⟨kd, hkd⟩, if_pos hass2]
  rfl
/-- a method that throws: its contract -/
def Thr (l : Launch) (y : MethodName) (ws : List Cond) (rm : Room) (Pc : Array Value → State → Prop) (Qx : Array Value → State → Addr → State → Prop) (mc ms : Nat) (free : Addr → Prop) : Prop :=
  MetFree l y (headSpec ws rm) Pc (fun _ _ _ _ _ => True) (fun a st o t => ∃ x, o = .threw x ∧ Qx a st x t ∧ ∃ L, (st.WarmedH t.vm ∧ st.sameButNew ({ t with vm := st.vm } : State) L mc ms) ∧ ∀ q ∈ L, free q.base)
theorem callVT {p : Program} {l : Launch} {e : Env} {R : Room} {s : State} {m : MethodId} {args : Array Value} {below : List Frame} {meth : Method} {c : Code} {T : State} {locs : List Loc} {cells slots : Nat}
    (X : Stand p l e R s m args below meth c T locs cells slots) (hexec : p.tables.exec = Jvm.exec) {own C : String} {index : Nat} {y : MethodName} {bytes : ByteArray} {maxL : Nat} {ret : Option FieldType} {ws : List Cond} {rm : Room} {Pc : Array Value → State → Prop} {Qx : Array Value → State → Addr → State → Prop} {mc ms : Nat} {free : Addr → Prop}
    (hM : Thr l y ws rm Pc Qx mc ms free) (hblind : FrameBlind Pc) (hrc : rm.cells = mc) (hrs : rm.slots = ms)
    (hown : s.vm.findClass own = some m.cls) (hlink : (Cond.methodLink own index y).before args s = true) (hinst : (Cond.instanceMethod y).before args s = true) (hsel : (Cond.selects C y y).before args s = true)
    (hcode : (Cond.code y bytes maxL ret).before args s = true) (hy : y.cls ≠ "java/lang/invoke/MethodHandle" ∧ y.cls ≠ "java/lang/invoke/VarHandle")
    {W : Nat} (hframes : rm.frames + 1 ≤ R.frames) (hlocals : W + (maxL + 11) + rm.locals ≤ R.locals)
    (hws : ∀ w ∈ ws, ∀ a' U, s.WarmedH U.vm → w.before a' U = true) (hcw : Cond.code y bytes maxL ret ∈ ws) (hinit : ∀ a' U, s.WarmedH U.vm → (Cond.initialized y.cls).before a' U = true)
    {b : Addr} {cellB : Cell} (hcell : T.heap[b]? = some cellB) (hobj : cellB.vm.isStatics = false) (hcls : s.vm.findClass C = some cellB.cls)
    {g : JFrame} (hg : g.method = m) (hsize : g.locals.size = c.maxLocals) {argsL rest : List Value} (hlen : ∀ sig, parseMethodDescriptor y.desc = some sig → argsL.length = sig.parameters.length)
    (hstack : g.stack = argsL.reverse ++ .ref b :: rest) (hW : 2 * g.monitorRoom + (rest.map fun v => v.category).sum ≤ W) (hdg : decode c.code g.pc = .ok (.invokevirtual index, 3))
    (hcells : cells + mc ≤ R.cells) (hslots : slots + ms ≤ R.slots)
    (hpre : ∀ vm₁, s.WarmedH vm₁ → Pc (Value.ref b :: argsL).toArray (T.setVm vm₁)) :
    ∃ (st : State) (x : Addr) (t T' : State) (L : List Loc), st.heap = T.heap ∧ s.WarmedH st.vm ∧ Qx (Value.ref b :: argsL).toArray st x t ∧ T'.heap = t.heap ∧ (∀ q ∈ L, free q.base) ∧ Stand p l e R s m args below meth c T' (locs ++ L) (cells + mc) (slots + ms) ∧
      ∀ target, Steps p.tables e below ((T'.setTop { g with stack := rest }).pushFrame (.throwing x)) target → Steps p.tables e below (T.setTop g) target := by
  obtain ⟨mk, methM, hnamed, hmethM, hstM, habM⟩ := Cond.instanceMethod_spec hinst
  obtain ⟨methM', cM, hmethM', hcM, -, hlM, -, -, -, hsigM⟩ := Cond.code_spec hnamed hcode
  cases hmethM.symm.trans hmethM'
  obtain ⟨c2, r2, m2, q1, q2, q3, q4, kP, hkP, hkPi⟩ := Cond.selects_spec hsel
  cases hcls.symm.trans q1
  cases (State.methodFound?_of_named hnamed hy).symm.trans q2
  cases hnamed.symm.trans q3
  have hselP : selectMethod e.platform s.vm cellB.cls mk = .method mk := by rw [Launch.admits_selectMethod X.admits]; exact q4
  obtain ⟨vm₁, X₁, hstep₁⟩ := X.invokevirtual hexec hown hlink hnamed hmethM hstM hkP hkPi hy (a := b) (cell := cellB) hcell
    (fun z h => by rw [h] at hobj; cases hobj) hselP hmethM habM hkP hkPi (g := g) hg (argsL := argsL) (rest := rest) (hlen _ hsigM) hstack hdg
  have hp := hpre vm₁ X₁.warmed
  have hn := X₁.named hnamed
  have hcU : (Cond.code y bytes maxL ret).before (Value.ref b :: argsL).toArray (T.setVm vm₁) = true := hws _ hcw _ _ X₁.warmed
  obtain ⟨methY, cY, hmY, hcY, -, hlY, -, -, -, -⟩ := Cond.code_spec hn hcU
  obtain ⟨kY, hkY, -⟩ := className_of_methodNamed hn
  have hinitY : kY.init = .initialized := Cond.initialized_spec (findClass_of_methodNamed hn) hkY (hinit (Value.ref b :: argsL).toArray _ X₁.warmed)
  have h : At (T.setVm vm₁) ({ g with stack := rest } : JFrame).method c below := by rw [show ({ g with stack := rest } : JFrame).method = m from hg]; exact X₁.here
  have happ : (headSpec ws rm).appliesLoose y e.platform ((T.setVm vm₁).calling { g with stack := rest } mk (Value.ref b :: argsL).toArray) = true :=
    Spec.appliesLoose_calling (g := { g with stack := rest }) h hdg hn hkY hinitY
      (X₁.room_calling (g := { g with stack := rest }) (R' := rm) hsize hmY hcY hframes (by rw [hlY]; dsimp only; omega) (by rw [hrc]; exact hcells) (by rw [hrs]; exact hslots)) (atoms_intro fun w hw => hws w hw _ _ X₁.warmed)
  obtain ⟨mid, hmid⟩ := h.above
  have hfr : ((T.setVm vm₁).setTop { g with stack := rest }).frames = (.java { g with stack := rest } :: mid) ++ below := by rw [State.frames_setTop' _ h.top, hmid]; rfl
  obtain ⟨o, s₂, hsteps, -, hend, x, rfl, hq, L, ⟨hW₂, hsame⟩, hL⟩ := Steps.callFree hM p X₁.admits X₁.cas X₁.clock (acts := []) hfr happ (hblind _ _ { g with stack := rest } mk hp) trivial
  rw [State.frames_setTop' _ h.top, X₁.tail] at hend
  obtain ⟨T', X', hWT, -, hs₂⟩ := X₁.outOfThrown (g := { g with stack := rest }) hg (mk := mk) (a := (Value.ref b :: argsL).toArray) hend hW₂ hsame
  refine ⟨(T.setVm vm₁).calling { g with stack := rest } mk (Value.ref b :: argsL).toArray, x, s₂, T', L, ?_, ?_, hq, ?_, hL, X', fun target ht => hstep₁ _ fun acts => ?_⟩
  · rfl
  · exact X₁.warmed
  · rw [hs₂, Stand.throwing_heap]
  · rw [doInvoke_state]
    refine hsteps.trans ?_
    rw [hs₂]
    exact ht
theorem throwNew {p : Program} {l : Launch} {e : Env} {R : Room} {s : State} {m : MethodId} {args : Array Value} {below : List Frame} {meth : Method} {c : Code} {T : State} (X : Stand p l e R s m args below meth c T [] 0 0) (hexec : p.tables.exec = Jvm.exec) (hl : l.stackTraces = false) {own cls text : String} {names : List String} {ia ib ic pc : Nat} {ls : Array Slot} {sa : Addr}
    (hown : s.vm.findClass own = some m.cls) (hcls : Bundle.fit cls = true) (hnames : ∀ n ∈ names, Bundle.fit n = true) (h : ∀ a ∈ Bundle.ownAtoms own ic cls names, a.before args s = true) (hclink : (Cond.classLink own ia cls).before args s = true) (hini : (Cond.initialized cls).before args s = true) (hconst : (Cond.stringRef own ib text).before args s = true) (hev : (Term.string own ib).eval args s none [] s = some (.ref sa))
    (hsize : ls.size = c.maxLocals) (hemp : c.exceptionTable.isEmpty = true)
    (hd0 : decode c.code pc = .ok (.new ia, 3)) (hd3 : decode c.code (pc + 3) = .ok (.dup, 1)) (hd4 : decode c.code (pc + 4) = .ok (.ldc ib, 2)) (hd6 : decode c.code (pc + 6) = .ok (.invokespecial ic, 3)) (hd9 : decode c.code (pc + 9) = .ok (.athrow, 1))
    (hcells : 1 ≤ R.cells) (hslots : 6 ≤ R.slots) (hRf : names.length + 3 < R.frames) (hRl : 13 * (names.length + 1) + 43 ≤ R.locals) (hlocks : meth.locks = false) :
    ∃ (U : State) (x : Addr), Steps p.tables e below (T.setTop { method := m, pc := pc, locals := ls, stack := [], locked := none }) U ∧ U.status = .running ∧ Ended U below (.threw x) ∧ s.WarmedH U.vm ∧ s.sameButNew ({ U with vm := s.vm } : State) [] 1 6 ∧
      ∃ ce, U.heap[x]? = some ce ∧ ce.vm = .none ∧ s.vm.findClass cls = some ce.cls ∧ s.vm.assignable ce.cls ce.cls = true := by
  have htr : e.platform.stackTraces = false := by rw [X.admits.platform]; exact hl
  obtain ⟨vm₁, cX, kX, hfX, hkX, -, -, X₁, st1⟩ := X.newCold hexec (own := own) (C := cls) (index := ia) (n := 6) hown hclink (h (.instantiable cls 6) (by simp [Bundle.ownAtoms])) hini
    (g := { method := m, pc := pc, locals := ls, stack := [], locked := none }) rfl hd0 (by omega) (by omega)
  generalize hT : (T.setVm vm₁).pushCell { cls := cX, slots := kX.instanceTypes.map defaultValue, vm := .none } = T1 at X₁ st1
  have hcellA : T1.heap[T.heap.size]? = some (freshCell cX kX) := by rw [← hT]; exact State.heap_pushCell_size _ _
  obtain ⟨U, hsteps, hrun, hend, hW, hsame, ce, hce, K⟩ := X₁.ctorThrowS hexec htr (own := own) (cls := cls) (names := names) (ic := ic) hown hcls hnames
    h (fun y hy => by cases hy) hfX hkX hcellA X.same.2.1 (msg := .ref sa) rfl
    (g := { method := m, pc := pc + 6, locals := ls, stack := [.ref sa, .ref T.heap.size, .ref T.heap.size], locked := none }) rfl hsize rfl rfl (rest := []) rfl
    hd6 hd9 (covers_of_empty hemp _) hRf (by simp [Value.category]; omega)
  refine ⟨U, T.heap.size, st1 _ ?_, hrun, hend, hW, hsame, ce, hce, K.vm, K.cls, K.self⟩
  show Steps p.tables e below (T1.setTop { method := m, pc := pc + 3, locals := ls, stack := [.ref T.heap.size], locked := none }) _
  jvm_step X₁.here [X₁.here.top, hexec, hd3, Value.category]
  exact X₁.ldcString hexec (own := own) (text := text) (index := ib) (a := sa) hown hconst hev (g := { method := m, pc := pc + 4, locals := ls, stack := [.ref T.heap.size, .ref T.heap.size], locked := none }) rfl hd4 _ hsteps
theorem callSR {p : Program} {l : Launch} {e : Env} {R : Room} {s : State} {m : MethodId} {args : Array Value} {below : List Frame} {meth : Method} {c : Code} {T : State} {locs : List Loc} {cells slots : Nat}
    (X : Stand p l e R s m args below meth c T locs cells slots) (hexec : p.tables.exec = Jvm.exec) {own : String} {index : Nat} {y : MethodName} {bytes : ByteArray} {maxL : Nat} {ret : Option FieldType} {hs : List (Nat × Nat × Nat × Nat)} {ws : List Cond} {rm : Room} {Pc : Array Value → State → Prop} {Qc : Array Value → State → Outcome → State → Prop} {mc ms : Nat} {free : Addr → Prop}
    (hM : Met l y ws rm Pc Qc mc ms free) (hblind : FrameBlind Pc) (hrc : rm.cells = mc) (hrs : rm.slots = ms)
    (hown : s.vm.findClass own = some m.cls) (hlink : (Cond.methodLink own index y).before args s = true) (hstat : (Cond.static y).before args s = true) (hini : (Cond.initialized y.cls).before args s = true)
    (hcode : (Cond.codeWith y bytes maxL ret hs).before args s = true) (hy : y.cls ≠ "java/lang/invoke/MethodHandle" ∧ y.cls ≠ "java/lang/invoke/VarHandle")
    {W : Nat} (hframes : rm.frames + 1 ≤ R.frames) (hlocals : W + (maxL + 11) + rm.locals ≤ R.locals)
    (hws : ∀ w ∈ ws, ∀ a' U, s.WarmedH U.vm → w.before a' U = true) (hcw : Cond.codeWith y bytes maxL ret hs ∈ ws) (hinit : ∀ a' U, s.WarmedH U.vm → (Cond.initialized y.cls).before a' U = true)
    {g : JFrame} (hg : g.method = m) (hsize : g.locals.size = c.maxLocals) {argsL rest : List Value} (hlen : ∀ sig, parseMethodDescriptor y.desc = some sig → argsL.length = sig.parameters.length)
    (hstack : g.stack = argsL.reverse ++ rest) (hW : 2 * g.monitorRoom + (rest.map fun v => v.category).sum ≤ W) (hdg : decode c.code g.pc = .ok (.invokestatic index, 3))
    (hcells : cells + mc ≤ R.cells) (hslots : slots + ms ≤ R.slots)
    (hpre : ∀ vm₁, s.WarmedH vm₁ → Pc argsL.toArray (T.setVm vm₁)) :
    ∃ (v : Option Value) (st t T' : State) (L : List Loc), st.heap = T.heap ∧ Stand p l e R s m args below meth c T' (locs ++ L) (cells + mc) (slots + ms) ∧ (∀ q ∈ L, free q.base) ∧ T'.heap = t.heap ∧ T'.vm = t.vm ∧ Qc argsL.toArray st (.returned v) t ∧
      ∀ target, Steps p.tables e below (T'.setTop { g with pc := g.pc + 3, stack := v.toList ++ rest }) target → Steps p.tables e below (T.setTop g) target := by
  obtain ⟨mk, methM, cM, hnamed, hmethM, hcM, -, hlM, -, -, -, hsigM⟩ := Cond.codeWith_spec hcode
  have hstatic : methM.isStatic = true := Cond.static_spec hnamed hmethM hstat
  obtain ⟨kP, hkP, -⟩ := className_of_methodNamed hnamed
  have hinitP : kP.init = .initialized := Cond.initialized_spec (findClass_of_methodNamed hnamed) hkP hini
  obtain ⟨vm₁, X₁, hstep₁⟩ := X.invokestatic hexec hown hlink hnamed hmethM hstatic hkP hinitP hy (g := g) hg (argsL := argsL) (rest := rest) (hlen _ hsigM) hstack hdg
  have hp := hpre vm₁ X₁.warmed
  have hn := X₁.named hnamed
  have hcU : (Cond.codeWith y bytes maxL ret hs).before argsL.toArray (T.setVm vm₁) = true := hws _ hcw _ _ X₁.warmed
  obtain ⟨mk', methY, cY, hn', hmY, hcY, -, hlY, -, -, -, -⟩ := Cond.codeWith_spec hcU
  cases hn.symm.trans hn'
  obtain ⟨kY, hkY, -⟩ := className_of_methodNamed hn
  have hinitY : kY.init = .initialized := Cond.initialized_spec (findClass_of_methodNamed hn) hkY (hinit argsL.toArray _ X₁.warmed)
  have h : At (T.setVm vm₁) ({ g with stack := rest } : JFrame).method c below := by rw [show ({ g with stack := rest } : JFrame).method = m from hg]; exact X₁.here
  have happ : (headSpec ws rm).appliesLoose y e.platform ((T.setVm vm₁).calling { g with stack := rest } mk argsL.toArray) = true :=
    Spec.appliesLoose_calling (g := { g with stack := rest }) h hdg hn hkY hinitY
      (X₁.room_calling (g := { g with stack := rest }) (R' := rm) hsize hmY hcY hframes (by rw [hlY]; dsimp only; omega) (by rw [hrc]; exact hcells) (by rw [hrs]; exact hslots)) (atoms_intro fun w hw => hws w hw _ _ X₁.warmed)
  obtain ⟨mid, hmid⟩ := h.above
  have hfr : ((T.setVm vm₁).setTop { g with stack := rest }).frames = (.java { g with stack := rest } :: mid) ++ below := by rw [State.frames_setTop' _ h.top, hmid]; rfl
  obtain ⟨o, s₂, hsteps, -, hend, hq, L, ⟨⟨v, rfl⟩, hW₂, hsame⟩, hL⟩ := Steps.callFree hM p X₁.admits X₁.cas X₁.clock (acts := []) hfr happ (hblind _ _ { g with stack := rest } mk hp) trivial
  rw [State.frames_setTop' _ h.top, X₁.tail] at hend
  obtain ⟨T', X', hWT, -, hs₂⟩ := X₁.outOf (g := { g with stack := rest }) hg hdg (mk := mk) (a := argsL.toArray) hend hW₂ hsame
  refine ⟨v, (T.setVm vm₁).calling { g with stack := rest } mk argsL.toArray, s₂, T', L, rfl, X', hL, ?_, ?_, hq, fun target ht => hstep₁ _ fun acts => ?_⟩
  · rw [hs₂]
    rfl
  · rw [hs₂]
    rfl
  · rw [doInvoke_state]
    refine hsteps.trans ?_
    rw [hs₂]
    exact ht
