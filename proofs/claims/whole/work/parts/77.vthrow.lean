/-! Throws, as contracts -/
/-- what stays true of the heap's old cells and is needed where an exception is made -/
def strs : List (Nat × String) := [(72, "30 words are held"), (97, "there is no such word"), (133, "most is not 0 .. 2"), (152, "there is no such one"), (154, "what is not 0 or 1")]
/-- a static field lies in a cell that isn't free -/
def ZL (n d : String) (A : Nat → Prop) (U : State) (H : Heap) : Prop := ∃ (c : ClassId) (k : Class) (i : Nat) (f : Field) (a : Nat) (cell : Cell), U.vm.findClass Bundle.tN = some c ∧ U.fieldFound? Bundle.tN n d = some (c, k, i, f) ∧ f.isStatic = true ∧ k.statics = some a ∧ H[a]? = some cell ∧ cell.vm.isStatics = true ∧ cell.cls = c ∧ f.slot < cell.slots.size ∧ k.staticTypes[f.slot]? = some f.type ∧ ¬ A a
theorem ZL.moved {n d : String} {A : Nat → Prop} {u U : State} {H : Heap} (hvm : u.vm.Alike U.vm) (h : ZL n d A u H) : ZL n d A U H := by
  obtain ⟨c, k, i, f, a, cell, h0, h1, h2, h3, h4, h5, h6, h7, h8, h9⟩ := h
  obtain ⟨k', hi', he⟩ := State.fieldFound?_setVm hvm h1
  exact ⟨c, k', i, f, a, cell, by rw [hvm.findClass]; exact h0, hi', h2, by rw [he]; exact h3, h4, h5, h6, h7, by rw [he]; exact h8, h9⟩
theorem ZL.kept {n d : String} {A : Nat → Prop} {U : State} {H H1 : Heap} (h : ZL n d A U H) (hq : ∀ a : Nat, a < H.size → ¬ A a → H1[a]? = H[a]?) : ZL n d A U H1 := by
  obtain ⟨c, k, i, f, a, cell, h0, h1, h2, h3, h4, h5, h6, h7, h8, h9⟩ := h
  exact ⟨c, k, i, f, a, cell, h0, h1, h2, h3, by rw [hq a (Array.getElem?_eq_some_iff.mp h4).1 h9]; exact h4, h5, h6, h7, h8, h9⟩
theorem ZL.narrow {n d : String} {A B : Nat → Prop} {U : State} {H : Heap} (h : ZL n d A U H) (hAB : ∀ q, B q → A q) : ZL n d B U H := by
  obtain ⟨c, k, i, f, a, cell, h0, h1, h2, h3, h4, h5, h6, h7, h8, h9⟩ := h
  exact ⟨c, k, i, f, a, cell, h0, h1, h2, h3, h4, h5, h6, h7, h8, fun z => h9 (hAB _ z)⟩
theorem ZL.of {n d : String} {A : Nat → Prop} {args : Array Value} {U : State} (h : (Cond.laysStatic Bundle.tN n d).before args U = true) (hA : ∀ a : Nat, a < U.heap.size → ¬ A a) : ZL n d A U U.heap := by
  obtain ⟨c, k, i, f, a, cell, hc, hi, hst, ha, hcell, hs, hcls, hlt, hty⟩ := Cond.laysStatic_spec h
  exact ⟨c, k, i, f, a, cell, hc, hi, hst, ha, hcell, hs, hcls, hlt, hty, hA a (Array.getElem?_eq_some_iff.mp hcell).1⟩
theorem ZL.use {n d : String} {A : Nat → Prop} {args : Array Value} {U : State} (h : ZL n d A U U.heap) : (Cond.laysStatic Bundle.tN n d).before args U = true := by
  obtain ⟨c, k, i, f, a, cell, h0, h1, h2, h3, h4, h5, h6, h7, h8, h9⟩ := h
  exact Cond.laysStatic_of h0 h1 h2 h3 h4 h5 h6 h7 h8
def casts : List String := ["java/lang/IllegalStateException", "java/lang/IndexOutOfBoundsException", "java/lang/IllegalArgumentException"]
def decls : List String := ["java/lang/RuntimeException", "java/lang/Exception", "java/lang/Throwable"]
def TX (A : Nat → Prop) (U : State) (H : Heap) : Prop := va_Zq Bundle.tN "UNASSIGNED_STACK" Bundle.steD A U H ∧ va_Zq Bundle.tN "SUPPRESSED_SENTINEL" Bundle.listD A U H ∧ (∀ w ∈ strs, ∃ q, vk_R RX6 w.1 w.2 q U) ∧ (∀ c1 c2, U.vm.findClass "java/lang/IndexOutOfBoundsException" = some c1 → U.vm.findClass "java/lang/IllegalArgumentException" = some c2 → U.vm.assignable c2 c1 = false) ∧ ZL "UNASSIGNED_STACK" Bundle.steD A U H ∧ ZL "SUPPRESSED_SENTINEL" Bundle.listD A U H ∧ (∀ w ∈ casts, va_Nw (.castable w w) U) ∧ ∀ w ∈ decls, va_Nw (.declares (Bundle.initS w)) U
theorem TX.on {A B : Nat → Prop} {s U : State} {H : Heap} (h : TX A s s.heap) (hW : s.WarmedH U.vm) (hq : ∀ a : Nat, a < s.heap.size → ¬ A a → H[a]? = s.heap[a]?) (hAB : ∀ q, B q → A q) : TX B U H :=
  ⟨((h.1.kept hq).moved hW.alike).narrow hAB, ((h.2.1.kept hq).moved hW.alike).narrow hAB, fun w hw => by
    obtain ⟨q, hr⟩ := h.2.2.1 w hw
    exact ⟨q, hr.warm hW⟩, fun c1 c2 h1 h2 => by
    rw [hW.alike.assignable]
    exact h.2.2.2.1 c1 c2 (by rw [← hW.alike.findClass]; exact h1) (by rw [← hW.alike.findClass]; exact h2), ((h.2.2.2.2.1.kept hq).moved hW.alike).narrow hAB, ((h.2.2.2.2.2.1.kept hq).moved hW.alike).narrow hAB, fun w hw => va_Nw.warmC hW (h.2.2.2.2.2.2.1 w hw), fun w hw => va_Nw.warmD hW (h.2.2.2.2.2.2.2 w hw)⟩
theorem TX.vm {A : Nat → Prop} {u U : State} {H : Heap} (hv : U.vm = u.vm) (h : TX A u H) : TX A U H := by
  have hW : u.WarmedH U.vm := by rw [hv]; exact State.WarmedH.refl u
  exact ⟨h.1.moved hW.alike, h.2.1.moved hW.alike, fun w hw => by
    obtain ⟨q, hr⟩ := h.2.2.1 w hw
    exact ⟨q, hr.same hv⟩, by rw [hv]; exact h.2.2.2.1, h.2.2.2.2.1.moved hW.alike, h.2.2.2.2.2.1.moved hW.alike, fun w hw => va_Nw.warmC hW (h.2.2.2.2.2.2.1 w hw), fun w hw => va_Nw.warmD hW (h.2.2.2.2.2.2.2 w hw)⟩
abbrev cPT (D : va_G) (cl : List vw_C) (tys : List (ClassId × FieldType)) (wc : va_W) (sz : Nat) : State → Prop := fun U => cP D cl tys wc sz U ∧ TX (va_A wc sz) U U.heap
def Tk (κ : Ku) : Prop := match κ with
  | (_, _, _, _, s, _, _, _, _, _, _, _, _, A, _) => TX A s s.heap
def Hx (κ : Ku) (hs : List (Nat × Nat × Nat × Nat)) : Prop := match κ with
  | (_, _, _, _, _, _, _, _, _, c, _, _, _, _, _) => c.exceptionTable.toList.map (fun h => (h.startPc, h.endPc, h.handlerPc, h.catchType)) = hs
/-- a method that throws; its world stays -/
def CT (l : Launch) (y : MethodName) (wds : List Cond) (rm : Room) (D : va_G) (cl : List vw_C) (tys : List (ClassId × FieldType)) (av : List Value) (wc : va_W) (CX : String) : Prop :=
  ∀ sz : Nat, Thr l y wds rm (va_Pc av (cPT D cl tys wc sz)) (fun _ st x t => (∃ ce, t.heap[x]? = some ce ∧ ce.vm = .none ∧ st.vm.findClass CX = some ce.cls ∧ st.vm.assignable ce.cls ce.cls = true) ∧ va_P D cl wc t.heap ∧ va_F (va_A wc sz) st t) rm.cells rm.slots (va_A wc sz)
theorem set_same {ws : va_W} {i : Nat} {e : Nat × va_E} (h : ws[i]? = some e) : ws.set i e = ws := by
  apply List.ext_getElem?
  intro k
  by_cases hk : i = k
  · subst hk
    rw [List.getElem?_set_self', h]
    rfl
  · rw [List.getElem?_set_ne hk]
theorem wSet_same : ∀ (is : List Nat) (es ws : va_W), is.map (fun i => ws[i]?) = es.map some → wSet ws is es = ws
  | [], [], _, _ => rfl
  | [], _ :: _, _, _ => rfl
  | _ :: _, [], _, _ => rfl
  | i :: is, e :: es, ws, h => by
    simp only [List.map_cons, List.cons.injEq] at h
    show wSet (ws.set i e) is es = ws
    rw [set_same h.1]
    exact wSet_same is es ws h.2
section VT
variable {κ : Ku} {lc : Launch} {rm : Room} {cc : ByteArray} {nL : Nat} {Ts : List Cond} {own : String} {D : va_G} {cl : List vw_C} {tys : List (ClassId × FieldType)}
variable {cells slots : Nat} {ws : va_W} {pc : Nat} {lv : List (Nat × Value)} {st : List Value}
variable {y : MethodName} {wds wds' : List Cond} {rmC : Room} {bytes : ByteArray} {maxL index : Nat} {C : String} {b ci : Nat} {As rest : List Value} {wc w1 : va_W} {T : u_T} {N : Nat} {fs : List Value}
theorem V_callVT (x : Cx κ lc rm cc nL Ts own D cl tys) (hTk : Tk κ) {hs : List (Nat × Nat × Nat × Nat)} (hH : Hx κ hs) (e0 : Nat × Nat × Nat × Nat) (hs' : List (Nat × Nat × Nat × Nat)) (hhs : hs = e0 :: hs') (hcov : e0.1 ≤ pc ∧ pc < e0.2.1) (h0 : e0.2.2.2 ≠ 0) {CX : String} (hclk : Cond.classLink own e0.2.2.2 CX ∈ Ts)
    {ret : Option FieldType} (hM : CT lc y wds rmC D cl tys (.ref b :: As) wc CX) (n : Nat) (g : GoodIn Ts (wsV own index C y wds)) (hw : wds = Cond.code y bytes maxL ret :: wds') (hd : y.cls = C ∧ y.cls ≠ "java/lang/invoke/MethodHandle" ∧ y.cls ≠ "java/lang/invoke/VarHandle" ∧ (parseMethodDescriptor y.desc).map (fun d => d.parameters.length) = some n)
    (hR : rmC.frames + 1 ≤ rm.frames ∧ 8 + (maxL + 11) + rmC.locals ≤ rm.locals) (q0 : Nat) (he : ws[q0]? = some (b, .inr (ci, fs))) (hc : cl[ci]? = some (C, T, N)) (hn : As.length = n) (isC : List Nat) (hC : isC.map (fun i => ws[i]?) = wc.map some) (hnd : va_nd isC = true)
    (hst : st = As.reverse ++ .ref b :: rest) (hro : (rest.map fun v => v.category).sum ≤ 8) (hdg : decode cc pc = .ok (.invokevirtual index, 3)) (hcs : cells + rmC.cells ≤ rm.cells ∧ slots + rmC.slots ≤ rm.slots)
    (k : ∀ z : Nat, V κ (cells + rmC.cells) (slots + rmC.slots) ws e0.2.2.1 lv [.ref z]) : V κ cells slots ws pc lv st := by
  obtain ⟨p, l, e, R, s, m, args, below, meth, c, Q, D', cl', A, nL'⟩ := κ
  obtain ⟨rfl, rfl, rfl, rfl, rfl, hx, hb, hml, hown, hts, hK, hNw, hA⟩ := x
  subst hst
  intro H locs ls hP hD hS hL T0 hT0 X
  have hPc : va_P D' cl' wc H := by
    intro k q hq
    have h1 : (isC.map (fun i => ws[i]?))[k]? = some (some q) := by rw [hC, List.getElem?_map, hq]; rfl
    rw [List.getElem?_map] at h1
    cases hi : isC[k]? with
    | none => rw [hi] at h1; cases h1
    | some i => rw [hi] at h1; exact hP i q (Option.some.inj h1)
  have hDc := hD.sub (ws' := wc) isC hnd hC
  have hFc := va_free (wc := wc) hD hS hA isC hC
  obtain ⟨cw, hin, hse⟩ := cwV (R := R) (mc := rmC.cells) (ms := rmC.slots) n hts g hw rfl rfl hd hR
  obtain ⟨-, -, hfr, hlo, hws, hcw, hcode, hini, hy, hlen, hl⟩ := cw
  obtain ⟨cellB, hcB, hoB, hfB⟩ := va_recv hK hP hc he
  obtain ⟨st0, z, t, T', L, hst0, hW0, ⟨⟨ce, hce, hcv, hcf, hca⟩, hPt, hFt⟩, hTt, hLf, X', hsteps⟩ := callVT X hx (hM H.size)
    (fun a U g mk q => by
      obtain ⟨q0, ⟨q1, qP, qK, qN, qD⟩, qT⟩ := q
      exact ⟨q0, ⟨q1, qP, va_K.moved (u := U) (U := U.calling g mk a) (Vm.Alike.refl U.vm) qK, va_Nw.same rfl (rfl : U.vm = (U.calling g mk a).vm) qN, qD⟩, TX.vm (rfl : (U.calling g mk a).vm = U.vm) qT⟩) rfl rfl hown hl hin hse hcode hy hfr hlo hws hcw
    (fun a' U hW => word_at hW (Or.inl (by first | rfl | simp [Cond.onTables, Cond.keeps, Cond.steady])) hini) (b := b) (cellB := cellB) (by rw [hT0]; exact hcB) hoB hfB (g := F0 m pc ls (As.reverse ++ .ref b :: rest)) rfl (by rw [hml]; exact hL.1) (argsL := As) (rest := rest) (fun sig h => hn.trans (hlen sig h)) rfl (by show 2 * 0 + _ ≤ 8; omega) (by rw [hb]; exact hdg) hcs.1 hcs.2
    (fun vm₁ hW => ⟨rfl, ⟨by show T0.heap.size = _; rw [hT0], by show va_P _ _ _ T0.heap; rw [hT0]; exact hPc, va_K.moved hW.alike hK, va_Nw.warmM hW hNw, hDc.weaken (fun _ _ _ _ => trivial)⟩, by
      show TX _ _ T0.heap
      rw [hT0]
      exact TX.on hTk hW (fun a h1 h2 => hS.2.1 a h1 h2) hFc⟩)
  have hst0 : st0.heap = H := hst0.trans hT0
  have hTk' := hTk
  unfold va_F at hFt
  rw [hst0] at hFt
  -- the handler
  have htab : ∃ e1 r1, c.exceptionTable.toList = e1 :: r1 ∧ (e1.startPc, e1.endPc, e1.handlerPc, e1.catchType) = e0 := by
    have h1 : c.exceptionTable.toList.map (fun h => (h.startPc, h.endPc, h.handlerPc, h.catchType)) = e0 :: hs' := by rw [← hhs]; exact hH
    cases ht : c.exceptionTable.toList with
    | nil => rw [ht] at h1; cases h1
    | cons e1 r1 =>
      rw [ht] at h1
      exact ⟨e1, r1, rfl, (List.cons.inj h1).1⟩
  obtain ⟨e1, r1, ht1, ht2⟩ := htab
  subst ht2
  have hal : s.vm.Alike st0.vm := hW0.alike
  obtain ⟨vm', X'', hst2⟩ := Stand_catchL X' hown (hts _ hclk) ht1 (a := z) (g := { F0 m pc ls (As.reverse ++ .ref b :: rest) with stack := rest }) rfl (by show (decide (e1.startPc ≤ pc) && decide (pc < e1.endPc)) = true; rw [decide_eq_true hcov.1, decide_eq_true hcov.2]; rfl) h0 (cell := ce) (by rw [hTt]; exact hce) hcv (by rw [← hal.findClass]; exact hcf) (by rw [← hal.assignable]; exact hca)
  obtain ⟨hP2, hD2⟩ := vj hP hD isC hC (w1 := wc) rfl (H1 := T'.heap) (fun q h1 h2 => by rw [hTt]; exact hFt.2 q h1 h2) (by rw [hTt]; exact hPt)
  rw [wSet_same isC wc ws hC] at hP2 hD2
  have hS2 : va_S A s.heap T'.heap (locs ++ L) := ⟨Nat.le_trans hS.1 (by rw [hTt]; exact hFt.1), fun q h1 h2 => by
      rw [hTt, hFt.2 q (Nat.lt_of_lt_of_le h1 hS.1) (fun z => h2 (hFc q z))]
      exact hS.2.1 q h1 h2, fun q hq => by
      rcases List.mem_append.mp hq with h | h
      · exact hS.2.2 q h
      · exact hFc _ (hLf q h)⟩
  obtain ⟨tf, a1, b1⟩ := k z T'.heap (locs ++ L) ls hP2 hD2 hS2 hL (T'.setVm vm') rfl X''
  exact ⟨tf, hsteps _ (hst2 _ a1), b1⟩
theorem V_callVT2 (x : Cx κ lc rm cc nL Ts own D cl tys) (hTk : Tk κ) {hs : List (Nat × Nat × Nat × Nat)} (hH : Hx κ hs) (f0 e0 : Nat × Nat × Nat × Nat) (hs' : List (Nat × Nat × Nat × Nat)) (hhs : hs = f0 :: e0 :: hs') (hcov0 : f0.1 ≤ pc ∧ pc < f0.2.1) (h00 : f0.2.2.2 ≠ 0) (hclk0 : Cond.classLink own f0.2.2.2 "java/lang/IndexOutOfBoundsException" ∈ Ts) (hcov : e0.1 ≤ pc ∧ pc < e0.2.1) (h0 : e0.2.2.2 ≠ 0) (hclk : Cond.classLink own e0.2.2.2 "java/lang/IllegalArgumentException" ∈ Ts)
    {ret : Option FieldType} (hM : CT lc y wds rmC D cl tys (.ref b :: As) wc "java/lang/IllegalArgumentException") (n : Nat) (g : GoodIn Ts (wsV own index C y wds)) (hw : wds = Cond.code y bytes maxL ret :: wds') (hd : y.cls = C ∧ y.cls ≠ "java/lang/invoke/MethodHandle" ∧ y.cls ≠ "java/lang/invoke/VarHandle" ∧ (parseMethodDescriptor y.desc).map (fun d => d.parameters.length) = some n)
    (hR : rmC.frames + 1 ≤ rm.frames ∧ 8 + (maxL + 11) + rmC.locals ≤ rm.locals) (q0 : Nat) (he : ws[q0]? = some (b, .inr (ci, fs))) (hc : cl[ci]? = some (C, T, N)) (hn : As.length = n) (isC : List Nat) (hC : isC.map (fun i => ws[i]?) = wc.map some) (hnd : va_nd isC = true)
    (hst : st = As.reverse ++ .ref b :: rest) (hro : (rest.map fun v => v.category).sum ≤ 8) (hdg : decode cc pc = .ok (.invokevirtual index, 3)) (hcs : cells + rmC.cells ≤ rm.cells ∧ slots + rmC.slots ≤ rm.slots)
    (k : ∀ z : Nat, V κ (cells + rmC.cells) (slots + rmC.slots) ws e0.2.2.1 lv [.ref z]) : V κ cells slots ws pc lv st := by
  obtain ⟨p, l, e, R, s, m, args, below, meth, c, Q, D', cl', A, nL'⟩ := κ
  obtain ⟨rfl, rfl, rfl, rfl, rfl, hx, hb, hml, hown, hts, hK, hNw, hA⟩ := x
  subst hst
  intro H locs ls hP hD hS hL T0 hT0 X
  have hPc : va_P D' cl' wc H := by
    intro k q hq
    have h1 : (isC.map (fun i => ws[i]?))[k]? = some (some q) := by rw [hC, List.getElem?_map, hq]; rfl
    rw [List.getElem?_map] at h1
    cases hi : isC[k]? with
    | none => rw [hi] at h1; cases h1
    | some i => rw [hi] at h1; exact hP i q (Option.some.inj h1)
  have hDc := hD.sub (ws' := wc) isC hnd hC
  have hFc := va_free (wc := wc) hD hS hA isC hC
  obtain ⟨cw, hin, hse⟩ := cwV (R := R) (mc := rmC.cells) (ms := rmC.slots) n hts g hw rfl rfl hd hR
  obtain ⟨-, -, hfr, hlo, hws, hcw, hcode, hini, hy, hlen, hl⟩ := cw
  obtain ⟨cellB, hcB, hoB, hfB⟩ := va_recv hK hP hc he
  obtain ⟨st0, z, t, T', L, hst0, hW0, ⟨⟨ce, hce, hcv, hcf, hca⟩, hPt, hFt⟩, hTt, hLf, X', hsteps⟩ := callVT X hx (hM H.size)
    (fun a U g mk q => by
      obtain ⟨q0, ⟨q1, qP, qK, qN, qD⟩, qT⟩ := q
      exact ⟨q0, ⟨q1, qP, va_K.moved (u := U) (U := U.calling g mk a) (Vm.Alike.refl U.vm) qK, va_Nw.same rfl (rfl : U.vm = (U.calling g mk a).vm) qN, qD⟩, TX.vm (rfl : (U.calling g mk a).vm = U.vm) qT⟩) rfl rfl hown hl hin hse hcode hy hfr hlo hws hcw
    (fun a' U hW => word_at hW (Or.inl (by first | rfl | simp [Cond.onTables, Cond.keeps, Cond.steady])) hini) (b := b) (cellB := cellB) (by rw [hT0]; exact hcB) hoB hfB (g := F0 m pc ls (As.reverse ++ .ref b :: rest)) rfl (by rw [hml]; exact hL.1) (argsL := As) (rest := rest) (fun sig h => hn.trans (hlen sig h)) rfl (by show 2 * 0 + _ ≤ 8; omega) (by rw [hb]; exact hdg) hcs.1 hcs.2
    (fun vm₁ hW => ⟨rfl, ⟨by show T0.heap.size = _; rw [hT0], by show va_P _ _ _ T0.heap; rw [hT0]; exact hPc, va_K.moved hW.alike hK, va_Nw.warmM hW hNw, hDc.weaken (fun _ _ _ _ => trivial)⟩, by
      show TX _ _ T0.heap
      rw [hT0]
      exact TX.on hTk hW (fun a h1 h2 => hS.2.1 a h1 h2) hFc⟩)
  have hst0 : st0.heap = H := hst0.trans hT0
  have hTk' := hTk
  unfold va_F at hFt
  rw [hst0] at hFt
  -- the handler
  have htab : ∃ d1 e1 r1, c.exceptionTable.toList = d1 :: e1 :: r1 ∧ (d1.startPc, d1.endPc, d1.handlerPc, d1.catchType) = f0 ∧ (e1.startPc, e1.endPc, e1.handlerPc, e1.catchType) = e0 := by
    have h1 : c.exceptionTable.toList.map (fun h => (h.startPc, h.endPc, h.handlerPc, h.catchType)) = f0 :: e0 :: hs' := by rw [← hhs]; exact hH
    cases ht : c.exceptionTable.toList with
    | nil => rw [ht] at h1; cases h1
    | cons d1 r0 =>
      cases r0 with
      | nil => rw [ht] at h1; cases h1
      | cons e1 r1 =>
        rw [ht] at h1
        exact ⟨d1, e1, r1, rfl, (List.cons.inj h1).1, (List.cons.inj (List.cons.inj h1).2).1⟩
  obtain ⟨d1, e1, r1, ht1, ht3, ht2⟩ := htab
  subst ht2
  subst ht3
  have hal : s.vm.Alike st0.vm := hW0.alike
  have hcf' : s.vm.findClass "java/lang/IllegalArgumentException" = some ce.cls := by rw [← hal.findClass]; exact hcf
  obtain ⟨vm', X'', hst2⟩ := Stand_catchL2 X' hown (hts _ hclk0) (hts _ hclk) ht1 (a := z) (g := { F0 m pc ls (As.reverse ++ .ref b :: rest) with stack := rest }) rfl (by show (decide (d1.startPc ≤ pc) && decide (pc < d1.endPc)) = true; rw [decide_eq_true hcov0.1, decide_eq_true hcov0.2]; rfl) (by show (decide (e1.startPc ≤ pc) && decide (pc < e1.endPc)) = true; rw [decide_eq_true hcov.1, decide_eq_true hcov.2]; rfl) h00 h0 (cell := ce) (by rw [hTt]; exact hce) hcv hcf' (by rw [← hal.assignable]; exact hca) (fun c1 h1 => (show TX A s s.heap from hTk').2.2.2.1 c1 ce.cls h1 hcf')
  obtain ⟨hP2, hD2⟩ := vj hP hD isC hC (w1 := wc) rfl (H1 := T'.heap) (fun q h1 h2 => by rw [hTt]; exact hFt.2 q h1 h2) (by rw [hTt]; exact hPt)
  rw [wSet_same isC wc ws hC] at hP2 hD2
  have hS2 : va_S A s.heap T'.heap (locs ++ L) := ⟨Nat.le_trans hS.1 (by rw [hTt]; exact hFt.1), fun q h1 h2 => by
      rw [hTt, hFt.2 q (Nat.lt_of_lt_of_le h1 hS.1) (fun z => h2 (hFc q z))]
      exact hS.2.1 q h1 h2, fun q hq => by
      rcases List.mem_append.mp hq with h | h
      · exact hS.2.2 q h
      · exact hFc _ (hLf q h)⟩
  obtain ⟨tf, a1, b1⟩ := k z T'.heap (locs ++ L) ls hP2 hD2 hS2 hL (T'.setVm vm') rfl X''
  exact ⟨tf, hsteps _ (hst2 _ a1), b1⟩
end VT
/-! Methods with handlers of their own -/
theorem Met.ofWW {l : Launch} {y : MethodName} {ws ws' : List Cond} {rm : Room} {Pc : Array Value → State → Prop} {Qc : Array Value → State → Outcome → State → Prop} {mc ms : Nat} {free : Addr → Prop} {cc : ByteArray} {maxL : Nat} {ret : Option FieldType} {hs : List (Nat × Nat × Nat × Nat)}
    (hy : plainName y.cls = true) (hw : ws = Cond.codeWith y cc maxL ret hs :: ws')
    (body : ∀ p e s m args below meth c s₁, BodyLoose p l y (headSpec ws rm) cc maxL ret e s m args below meth c s₁ → c.maxLocals = maxL → c.exceptionTable.toList.map (fun h => (h.startPc, h.endPc, h.handlerPc, h.catchType)) = hs → Pc args s →
      W p l e (headSpec ws rm).room s m args below meth c s.heap [] 0 0 (MQ below Qc args s mc ms free) (entryFrame m args maxL)) : Met l y ws rm Pc Qc mc ms free := by
  refine MetFree.of_bodyS (code := cc) (maxLocals := maxL) (ret := ret) hy ?_ ?_
  · intro args s m h hn
    obtain ⟨m', meth, c, hm', h1, h2, h3, h4, -, h5, h6, -⟩ := Cond.codeWith_spec (atoms_spec (ws := ws) h _ (by rw [hw]; exact List.mem_cons_self))
    cases hn.symm.trans hm'
    exact ⟨meth, c, h1, h2, h3, h4, h5, h6⟩
  · intro p e s m args below meth c s₁ B hml hP _
    have hh0 : s₁.heap = s.heap := by rw [B.state]; rfl
    obtain ⟨m', meth', c', hm', h1, h2, h3, h4, h7, h5, h6, -⟩ := Cond.codeWith_spec (atoms_spec (ws := ws) B.pre _ (by rw [hw]; exact List.mem_cons_self))
    cases B.named.symm.trans hm'
    cases B.method.symm.trans h1
    cases (Stand.of_body B).code.symm.trans h2
    obtain ⟨t, a1, o, b1, b2, b3⟩ := body p e s m args below meth c s₁ B hml h7 hP s₁ hh0 (Stand.of_body B)
    exact ⟨t, o, a1, b1, b2, ⟨b3.1, b3.2⟩⟩
/-- a law's method with a handler: it returns, whatever was thrown under it -/
def CIT (l : Launch) (y : MethodName) (wds : List Cond) (rm : Room) (D : va_G) (cl : List vw_C) (tys : List (ClassId × FieldType)) (av : List Value) (wc : va_W) (r : Int32) (w1 : va_W) : Prop :=
  ∀ sz : Nat, Met l y wds rm (va_Pc av (cPT D cl tys wc sz)) (va_Qi (fun (r' : Int32) (_ : Unit) => r' = r) (fun _ t => va_P D cl w1 t.heap) (va_A wc sz)) rm.cells rm.slots (va_A wc sz)
theorem CIT.ofV {l : Launch} {y : MethodName} {wds wds' : List Cond} {rm : Room} {D : va_G} {cl : List vw_C} {tys : List (ClassId × FieldType)} {av : List Value} {wc w1 : va_W} {cc : ByteArray} {maxL : Nat} {r : Int32} {ty : FieldType} {hs : List (Nat × Nat × Nat × Nat)} (hn : narrow ty (.int r) = .int r)
    (hy : plainName y.cls = true) (hw : wds = Cond.codeWith y cc maxL (some ty) hs :: wds') (hm : (lg_sl av).length ≤ maxL)
    (body : ∀ κ : Ku, Cx κ l rm cc maxL wds' y.cls D cl tys → Tk κ → Hx κ hs → (∀ (pc : Nat) (lv : List (Nat × Value)), decode cc pc = .ok (.ireturn, 1) → V κ rm.cells rm.slots w1 pc lv [.int r]) → V κ 0 0 wc 0 (lv_args 0 av) []) : CIT l y wds rm D cl tys av wc r w1 := by
  intro sz
  refine Met.ofWW (cc := cc) (maxL := maxL) (ret := (some ty)) hy hw ?_
  intro p e s m args below meth c s₁ B hml hH hv
  obtain ⟨rfl, ⟨hsz, hP, hK, hNw, hD0⟩, hTX⟩ := hv
  have hx := B.exec
  have hb := B.bytes
  have hr := B.returns
  have hts := atoms_spec (ws := wds) B.pre
  have hown : s.vm.findClass y.cls = some m.cls := findClass_of_methodNamed B.named
  have hlocks := B.notSynchronized
  subst hsz
  have hD := hD0.self (sz := s.heap.size)
  generalize hAe : va_A wc s.heap.size = A at hD hTX ⊢
  have hA : ∀ q : Nat, s.heap.size ≤ q → A q := fun q h => by rw [← hAe]; exact Or.inr h
  have hS : va_S A s.heap s.heap [] := va_S.rf
  have hl := lv_entry av (n := maxL) hm
  rw [lg_entry_eq]
  generalize (lg_sl av ++ List.replicate (maxL - (lg_sl av).length) Slot.unset).toArray = ls at hl ⊢
  exact body (p, l, e, (headSpec wds rm).room, s, m, av.toArray, below, meth, c, _, D, cl, A, maxL) ⟨rfl, rfl, rfl, rfl, rfl, hx, hb, hml, hown, fun w h => hts w (by rw [hw]; exact List.mem_cons_of_mem _ h), hK, hNw, hA⟩ hTX hH
    (fun pc lv hd H locs ls hP hD hS hL => W.zret (v := r) hx hb hr hn (fun t ht hW => ⟨⟨r, (), rfl, rfl, by show va_P D cl w1 t.heap; rw [ht]; exact hP⟩, hS.F ht⟩) hS.2.2 hd) s.heap [] ls hP hD hS hl
section VW
variable {κ : Ku} {lc : Launch} {rm : Room} {cc : ByteArray} {nL : Nat} {Ts : List Cond} {own : String} {D : va_G} {cl : List vw_C} {tys : List (ClassId × FieldType)}
variable {cells slots : Nat} {ws : va_W} {pc : Nat} {lv : List (Nat × Value)} {st : List Value}
variable {y : MethodName} {wds wds' : List Cond} {rmC : Room} {bytes : ByteArray} {maxL index : Nat} {As rest : List Value} {wc w1 : va_W}
theorem V_callSW (x : Cx κ lc rm cc nL Ts own D cl tys) (hTk : Tk κ) {r : Int32} {ret : Option FieldType} {hs : List (Nat × Nat × Nat × Nat)} (hM : CIT lc y wds rmC D cl tys As wc r w1) (n : Nat) (g : GoodIn Ts (va_wsS own index y wds)) (hw : wds = Cond.codeWith y bytes maxL ret hs :: wds') (hd : y.cls ≠ "java/lang/invoke/MethodHandle" ∧ y.cls ≠ "java/lang/invoke/VarHandle" ∧ (parseMethodDescriptor y.desc).map (fun d => d.parameters.length) = some n)
    (hR : rmC.frames + 1 ≤ rm.frames ∧ 8 + (maxL + 11) + rmC.locals ≤ rm.locals) (hn : As.length = n) (isC : List Nat) (ws' : va_W) (hC : isC.map (fun i => ws[i]?) = wc.map some) (hnd : va_nd isC = true) (ads : List Nat) (hf1 : w1.map Prod.fst = ads) (hf2 : wc.map Prod.fst = ads) (ps : List (Option Nat)) (hck : wChk isC ps = true) (hw' : wPut ws ps w1 = ws')
    (hst : st = As.reverse ++ rest) (hro : (rest.map fun v => v.category).sum ≤ 8) (hdg : decode cc pc = .ok (.invokestatic index, 3)) (hcs : cells + rmC.cells ≤ rm.cells ∧ slots + rmC.slots ≤ rm.slots)
    (k : V κ (cells + rmC.cells) (slots + rmC.slots) ws' (pc + 3) lv (.int r :: rest)) : V κ cells slots ws pc lv st := by
  obtain ⟨p, l, e, R, s, m, args, below, meth, c, Q, D', cl', A, nL'⟩ := κ
  obtain ⟨rfl, rfl, rfl, rfl, rfl, hx, hb, hml, hown, hts, hK, hNw, hA⟩ := x
  subst hw'
  subst hst
  intro H locs ls hP hD hS hL
  have hPc : va_P D' cl' wc H := by
    intro k q hq
    have h1 : (isC.map (fun i => ws[i]?))[k]? = some (some q) := by rw [hC, List.getElem?_map, hq]; rfl
    rw [List.getElem?_map] at h1
    cases hi : isC[k]? with
    | none => rw [hi] at h1; cases h1
    | some i => rw [hi] at h1; exact hP i q (Option.some.inj h1)
  have hDc := hD.sub (ws' := wc) isC hnd hC
  have hFc := va_free (wc := wc) hD hS hA isC hC
  have ok : ∀ w ∈ va_wsS own index y wds, w.before args s = true := fun w h => hts w (g w h).1
  have hG : GoodIn Ts wds := fun w h => g w (by unfold va_wsS; exact List.mem_append_right _ h)
  have hcw : Cond.codeWith y bytes maxL ret hs ∈ wds := by rw [hw]; exact List.mem_cons_self
  have hini : (Cond.initialized y.cls).before args s = true := ok _ (by simp [va_wsS])
  have hrun : va_Run p l e R s m args below meth c H locs cells slots rmC.cells rmC.slots (F0 m pc ls (As.reverse ++ rest)) rest ((va_Qi (fun (r' : Int32) (_ : Unit) => r' = r) (fun _ t => va_P D' cl' w1 t.heap) (va_A wc H.size)) As.toArray) (va_A wc H.size) := by
    intro T hT X
    obtain ⟨v, st0, t, T', L, h1, h2, h3, h4, h5, h6, h7⟩ := callSR X hx (hM H.size)
      (fun a U g mk q => by
        obtain ⟨q0, ⟨q1, qP, qK, qN, qD⟩, qT⟩ := q
        exact ⟨q0, ⟨q1, qP, va_K.moved (u := U) (U := U.calling g mk a) (Vm.Alike.refl U.vm) qK, va_Nw.same rfl (rfl : U.vm = (U.calling g mk a).vm) qN, qD⟩, TX.vm (rfl : (U.calling g mk a).vm = U.vm) qT⟩) rfl rfl hown (ok (Cond.methodLink own index y) (by simp [va_wsS])) (ok (Cond.static y) (by simp [va_wsS])) hini (hts _ (hG _ hcw).1) ⟨hd.1, hd.2.1⟩ hR.1 hR.2 (pay_in hts hG) hcw
      (fun a' U hW => word_at hW (Or.inl (by first | rfl | simp [Cond.onTables, Cond.keeps, Cond.steady])) hini) (g := F0 m pc ls (As.reverse ++ rest)) rfl (by rw [hml]; exact hL.1) (argsL := As) (rest := rest) (fun sig h => by
        have h2 := hd.2.2
        rw [h] at h2
        rw [hn]
        exact (Option.some.inj h2).symm) rfl (by show 2 * 0 + _ ≤ 8; omega) (by rw [hb]; exact hdg) hcs.1 hcs.2
      (fun vm₁ hW => ⟨rfl, ⟨by show T.heap.size = _; rw [hT], by show va_P _ _ _ T.heap; rw [hT]; exact hPc, va_K.moved hW.alike hK, va_Nw.warmM hW hNw, hDc.weaken (fun _ _ _ _ => trivial)⟩, by
        show TX _ _ T.heap
        rw [hT]
        exact TX.on hTk hW (fun a h1 h2 => hS.2.1 a h1 h2) hFc⟩)
    exact ⟨v, st0, t, T', L, h1.trans hT, h2, h3, h4, h5, h6, h7⟩
  refine va_calli hrun hS (fun q _ h => hFc q h) hFc (fun r0 u t H1 locs1 ht hvm hw0 hB hz1 hk1 hS1 => ?_)
  rw [ht] at hB
  subst hw0
  obtain ⟨hP2, hD2⟩ := vj2 hP hD isC hC (hf1.trans hf2.symm) hk1 hB ps hck
  exact k H1 locs1 ls hP2 hD2 hS1 hL
end VW
