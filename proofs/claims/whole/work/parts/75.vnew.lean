/-! Constructors: rows that make cells -/
def Ci (κ : Ku) : Prop := match κ with
  | (_, _, _, _, _, _, _, _, meth, _, _, _, _, _, _) => meth.name = "<init>"
/-- a constructor's contract: what its world has become -/
def CN (l : Launch) (y : MethodName) (wds : List Cond) (rm : Room) (D : va_G) (cl : List vw_C) (tys : List (ClassId × FieldType)) (av : List Value) (wc : va_W) (Wp : va_W → Prop) : Prop :=
  ∀ sz : Nat, Met l y wds rm (va_Pc av (cP D cl tys wc sz)) (va_Qv (fun (_ : Unit) => True) (fun _ t => ∃ w1, Wp w1 ∧ va_P D cl w1 t.heap ∧ va_D (va_A wc sz) w1) (va_A wc sz)) rm.cells rm.slots (va_A wc sz)
theorem CN.ofV {l : Launch} {y : MethodName} {wds wds' : List Cond} {rm : Room} {D : va_G} {cl : List vw_C} {tys : List (ClassId × FieldType)} {av : List Value} {wc : va_W} {Wp : va_W → Prop} {cc : ByteArray} {maxL : Nat}
    (hy : plainName y.cls = true) (hn : y.name = "<init>") (hw : wds = Cond.code y cc maxL none :: wds') (hm : (lg_sl av).length ≤ maxL)
    (body : ∀ κ : Ku, Cx κ l rm cc maxL wds' y.cls D cl tys → Ci κ → (∀ (pc : Nat) (lv : List (Nat × Value)) (w1 : va_W), Wp w1 → decode cc pc = .ok (.return_, 1) → V κ rm.cells rm.slots w1 pc lv []) → V κ 0 0 wc 0 (lv_args 0 av) []) : CN l y wds rm D cl tys av wc Wp := by
  intro sz
  refine Met.ofW (cc := cc) (maxL := maxL) (ret := none) hy hw ?_
  intro p e s m args below meth c s₁ B hml hv
  obtain ⟨rfl, hsz, hP, hK, hNw, hD0⟩ := hv
  have hx := B.exec
  have hb := B.bytes
  have hr := B.returns
  have hts := atoms_spec (ws := wds) B.pre
  have hown : s.vm.findClass y.cls = some m.cls := findClass_of_methodNamed B.named
  have hlocks := B.notSynchronized
  have hin : meth.name = "<init>" := by rw [(name_of_methodNamed B.named B.method).1]; exact hn
  subst hsz
  have hD := hD0.self (sz := s.heap.size)
  generalize hAe : va_A wc s.heap.size = A at hD ⊢
  have hA : ∀ q : Nat, s.heap.size ≤ q → A q := fun q h => by rw [← hAe]; exact Or.inr h
  have hS : va_S A s.heap s.heap [] := va_S.rf
  have hl := lv_entry av (n := maxL) hm
  rw [lg_entry_eq]
  generalize (lg_sl av ++ List.replicate (maxL - (lg_sl av).length) Slot.unset).toArray = ls at hl ⊢
  exact body (p, l, e, (headSpec wds rm).room, s, m, av.toArray, below, meth, c, _, D, cl, A, maxL) ⟨rfl, rfl, rfl, rfl, rfl, hx, hb, hml, hown, fun w h => hts w (by rw [hw]; exact List.mem_cons_of_mem _ h), hK, hNw, hA⟩ hin
    (fun pc lv w1 hW1 hd H locs ls hP hD hS hL => W.vret hx hb hr (fun t ht hW => ⟨⟨(), rfl, trivial, w1, hW1, by show va_P D cl w1 t.heap; rw [ht]; exact hP, hD⟩, hS.F ht⟩) hS.2.2 hd) s.heap [] ls hP hD hS hl
section VN
variable {κ : Ku} {lc : Launch} {rm : Room} {cc : ByteArray} {nL : Nat} {Ts : List Cond} {own : String} {D : va_G} {cl : List vw_C} {tys : List (ClassId × FieldType)}
variable {cells slots : Nat} {ws : va_W} {pc : Nat} {lv : List (Nat × Value)} {st : List Value}
theorem V_new (x : Cx κ lc rm cc nL Ts own D cl tys) (ci : Nat) {C : String} {T : u_T} {N index : Nat} (fs : List Value) (hin : ∀ w ∈ u_ws C T N, w ∈ Ts) (ty : Nat → FieldType) (hty : ∀ k, k < N → parseFieldDescriptor (T k).2.2.1 = some (ty k)) (hcl : Cond.classLink own index C ∈ Ts) (hinst : Cond.instantiable C N ∈ Ts) (hini : Cond.initialized C ∈ Ts) (hc : cl[ci]? = some (C, T, N)) (hfs : ∀ j, j < N → defaultValue (ty j) = vp_V fs j) (hcells : cells + 1 ≤ rm.cells) (hslots : slots + N ≤ rm.slots) (hdg : decode cc pc = .ok (.new index, 3))
    (k : ∀ q : Nat, V κ (cells + 1) (slots + N) (ws ++ [(q, .inr (ci, fs))]) (pc + 3) lv (.ref q :: st)) : V κ cells slots ws pc lv st := by
  obtain ⟨p, l, e, R, s, m, args, below, meth, c, Q, D', cl', A, nL'⟩ := κ
  obtain ⟨rfl, rfl, rfl, rfl, rfl, hx, hb, hml, hown, hts, hK, hNw, hA⟩ := x
  exact fun H locs ls hP hD hS hL => va_new hx hb hts hin ty hty hown (hts _ hcl) (hts _ hinst) (hts _ hini) hK hP hD hS hA hc hfs hcells hslots hdg (fun q H1 hP1 hD1 hS1 => k q H1 locs ls hP1 hD1 hS1 hL)
theorem V_newa (x : Cx κ lc rm cc nL Ts own D cl tys) {atype : ArrayType} (t0 : Nat) {cA : ClassId} {ty : FieldType} (harr : Cond.arrayClass (newarray.typeOf atype) ∈ Ts) (hty : newarray.typeOf atype = ty) (ht : tys[t0]? = some (cA, ty)) (hra : ∀ (U : State) (c1 c2 : ClassId), va_RA U c1 ty → va_RA U c2 ty → c1 = c2) {N' : Nat} (a0 : vp_A) (ha : ∀ cA : ClassId, vp_cell cA a0 = arrV cA N' (fun _ => defaultValue ty)) (hN : N' < 2147483648) (hbytes : N' * componentBytes ty ≤ 536870912) (hcells : cells + 1 ≤ rm.cells) (hslots : slots + N' ≤ rm.slots) (hdg : decode cc pc = .ok (.newarray atype, 2))
    (k : ∀ q : Nat, V κ (cells + 1) (slots + N') (ws ++ [(q, .inl (cA, a0))]) (pc + 2) lv (.ref q :: st)) : V κ cells slots ws pc lv (.int (nI N') :: st) := by
  obtain ⟨p, l, e, R, s, m, args, below, meth, c, Q, D', cl', A, nL'⟩ := κ
  obtain ⟨rfl, rfl, rfl, rfl, rfl, hx, hb, hml, hown, hts, hK, hNw, hA⟩ := x
  refine fun H locs ls hP hD hS hL => va_newa hx hb (hts _ harr) hty hK hP hD hS hA ha (nI_pos hN) (nI_clamp hN) hbytes hcells hslots hdg (fun q cB H1 hK1 hP1 hD1 hS1 => ?_)
  have h1 := (hK1.2 tys.length (cB, ty) (by rw [List.getElem?_append_right (Nat.le_refl _), Nat.sub_self]; rfl)).2
  have h2 := (hK.2 t0 (cA, ty) ht).2
  have h3 : cB = cA := hra s cB cA h1 h2
  subst h3
  exact k q H1 locs ls hP1 hD1 hS1 hL
theorem V_putF (x : Cx κ lc rm cc nL Ts own D cl tys) (hi : Ci κ) (q0 ci j : Nat) {C : String} {T : u_T} {N index a : Nat} {fs : List Value} {v : Value} {ty : FieldType} (ws' : va_W) (hin : ∀ w ∈ u_ws C T N, w ∈ Ts) (ty0 : Nat → FieldType) (hty : ∀ k, k < N → parseFieldDescriptor (T k).2.2.1 = some (ty0 k)) (hnm : ∀ a, a < N → ∀ b, b < N → a ≠ b → (T a).2.1 ≠ (T b).2.1) (he : ws[q0]? = some (a, .inr (ci, fs))) (hc : cl[ci]? = some (C, T, N)) (hj : j < N) (hlink : Cond.fieldLink own index (T j).1 (T j).2.1 (T j).2.2.1 ∈ Ts) (hfin : (T j).2.2.2 = true) (hdecl : (T j).1 = own) (hd : parseFieldDescriptor (T j).2.2.1 = some ty) (hn : narrow ty v = v) (hfit : fits ty v = true) (hl : j < fs.length) (hw : ws.set q0 (a, .inr (ci, fs.set j v)) = ws') (hdg : decode cc pc = .ok (.putfield index, 3))
    (k : V κ cells slots ws' (pc + 3) lv st) : V κ cells slots ws pc lv (v :: .ref a :: st) := by
  obtain ⟨p, l, e, R, s, m, args, below, meth, c, Q, D', cl', A, nL'⟩ := κ
  obtain ⟨rfl, rfl, rfl, rfl, rfl, hx, hb, hml, hown, hts, hK, hNw, hA⟩ := x
  subst hw
  exact fun H locs ls hP hD hS hL => va_putF hx hb hts hin ty0 hty hnm hown hK hP hD hS q0 he hc j hj (hts _ hlink) (fun _ h => h) hfin hi hdecl hd hn hfit hl hdg (fun H1 locs1 hP1 hD1 hS1 => k H1 locs1 ls hP1 hD1 hS1 hL)
theorem V_obj (x : Cx κ lc rm cc nL Ts own D cl tys) {idx a : Nat} (hlink : Cond.methodLink own idx Lib.objectInit ∈ Ts) (hinst : Cond.instanceMethod Lib.objectInit ∈ Ts) (hcode : Cond.code Lib.objectInit ⟨#[0xb1]⟩ 1 none ∈ Ts) (hr : 1 ≤ rm.frames ∧ (st.map fun v => v.category).sum + 12 ≤ rm.locals) (hdg : decode cc pc = .ok (.invokespecial idx, 3))
    (k : V κ cells slots ws (pc + 3) lv st) : V κ cells slots ws pc lv (.ref a :: st) := by
  obtain ⟨p, l, e, R, s, m, args, below, meth, c, Q, D', cl', A, nL'⟩ := κ
  obtain ⟨rfl, rfl, rfl, rfl, rfl, hx, hb, hml, hown, hts, hK, hNw, hA⟩ := x
  exact fun H locs ls hP hD hS hL => W.objInit hx hb hown (hts _ hlink) (hts _ hinst) (hts _ hcode) (g := F0 m pc ls (.ref a :: st)) rfl (by rw [hml]; exact hL.1) (a := a) (rest := st) rfl hdg hr.1 (by show 2 * 0 + _ + 12 ≤ _; omega) (k H locs ls hP hD hS hL)
/-- cells without a place in the callee's world stay; its world comes behind them -/
theorem V_callN (x : Cx κ lc rm cc nL Ts own D cl tys) {y : MethodName} {wds wds' : List Cond} {rmC : Room} {bytes : ByteArray} {maxL index b : Nat} {As rest : List Value} {wc : va_W} {Wp : va_W → Prop} (hM : CN lc y wds rmC D cl tys (.ref b :: As) wc Wp) (n : Nat) (g : GoodIn Ts wds) (hw : wds = Cond.code y bytes maxL none :: wds') (hini : Cond.initialized y.cls ∈ Ts) (hlink : Cond.methodLink own index y ∈ Ts) (hinst : Cond.instanceMethod y ∈ Ts) (hy1 : y.name = "<init>")
    (hd : y.cls ≠ "java/lang/invoke/MethodHandle" ∧ y.cls ≠ "java/lang/invoke/VarHandle" ∧ (parseMethodDescriptor y.desc).map (fun d => d.parameters.length) = some n) (hR : rmC.frames + 1 ≤ rm.frames ∧ 8 + (maxL + 11) + rmC.locals ≤ rm.locals) (hn : As.length = n) (isC isR : List Nat) (wr : va_W) (hC : isC.map (fun i => ws[i]?) = wc.map some) (hRr : isR.map (fun i => ws[i]?) = wr.map some) (hnd : va_nd isC = true) (hnr : va_nd isR = true) (hdis : ∀ i ∈ isR, i ∉ isC)
    (hst : st = As.reverse ++ .ref b :: rest) (hro : (rest.map fun v => v.category).sum ≤ 8) (hdg : decode cc pc = .ok (.invokespecial index, 3)) (hcs : cells + rmC.cells ≤ rm.cells ∧ slots + rmC.slots ≤ rm.slots)
    (k : ∀ w1, Wp w1 → V κ (cells + rmC.cells) (slots + rmC.slots) (wr ++ w1) (pc + 3) lv rest) : V κ cells slots ws pc lv st := by
  obtain ⟨p, l, e, R, s, m, args, below, meth, c, Q, D', cl', A, nL'⟩ := κ
  obtain ⟨rfl, rfl, rfl, rfl, rfl, hx, hb, hml, hown, hts, hK, hNw, hA⟩ := x
  subst hst
  intro H locs ls hP hD hS hL
  have hPc : va_P D' cl' wc H := by
    intro k q hq
    have h1 : (isC.map (fun i => ws[i]?))[k]? = some (some q) := by rw [hC, List.getElem?_map, hq]; rfl
    rw [List.getElem?_map] at h1
    cases hi : isC[k]? with
    | none => rw [hi] at h1; cases h1
    | some i => rw [hi] at h1; exact hP i q (Option.some.inj h1)
  have hDc := hD.sub (ws' := wc) isC hnd hC
  have hFc := va_free (wc := wc) hD hS hA isC hC
  refine va_callv (va_runI (As := As) (rest := rest) ⟨hx, hb, hml, hown, hts⟩ (hM H.size) (cwI n hts g hw rfl rfl (hts _ hini) (hts _ hlink) (hts _ hinst) hy1 hd hR) ⟨fun a U g mk q => by obtain ⟨q0, q1, qP, qK, qN, qD⟩ := q; exact ⟨q0, q1, qP, va_K.moved (u := U) (U := U.calling g mk a) (Vm.Alike.refl U.vm) qK, va_Nw.same rfl (rfl : U.vm = (U.calling g mk a).vm) qN, qD⟩, fun U hU hW => ⟨rfl, by rw [hU], by rw [hU]; exact hPc, va_K.moved hW.alike hK, va_Nw.warmM hW hNw, hDc.weaken (fun _ _ _ _ => trivial)⟩⟩ rfl hn hL.1 rfl (lv_room hro) hdg hcs) hS (fun q _ h => hFc q h) hFc (fun u t H1 locs1 ht hvm hw0 hB hz1 hk1 hS1 => ?_)
  obtain ⟨w1, hW1, hP1, hD1⟩ := hB
  rw [ht] at hP1
  obtain ⟨hP2, hD2⟩ := va_join hP hD isC isR hC hRr hnr hdis hk1 hFc hP1 hD1
  exact k w1 hW1 H1 locs1 ls hP2 hD2 hS1 hL
end VN
