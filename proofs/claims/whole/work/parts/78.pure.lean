/-! Walks that change nothing; the end of a method that throws -/
def VP (κ : Ku) (pc : Nat) (lv : List (Nat × Value)) (st : List Value) : Prop :=
  match κ with
  | (p, l, e, R, s, m, args, below, meth, c, Q, _, _, _, nL) => ∀ (H : Heap) (ls : Array Slot), va_S (fun _ => False) s.heap H [] → lv_has ls nL lv → W p l e R s m args below meth c H [] 0 0 Q (F0 m pc ls st)
/-- the world as it stood at the start -/
def Pk (κ : Ku) (wc : va_W) : Prop := match κ with
  | (_, _, _, _, s, _, _, _, _, _, _, D, cl, _, _) => va_P D cl wc s.heap
theorem va_P.same {D : va_G} {cl : List vw_C} {wc : va_W} {H0 H : Heap} (h : va_P D cl wc H0) (hS : va_S (fun _ => False) H0 H []) : va_P D cl wc H := by
  intro k q hq
  have h1 := h k q hq
  exact h1.kept (hS.2.1 q.1 h1.lt (fun z => z))
section VPS
variable {κ : Ku} {lc : Launch} {rm : Room} {cc : ByteArray} {nL : Nat} {Ts : List Cond} {own : String} {D : va_G} {cl : List vw_C} {tys : List (ClassId × FieldType)}
variable {wc : va_W} {pc : Nat} {lv : List (Nat × Value)} {st : List Value}
theorem VP_iconst (x : Cx κ lc rm cc nL Ts own D cl tys) {n : Int} {v : Int32} (hdg : decode cc pc = .ok (.iconst n, 1)) (hv : Int32.ofInt n = v) (k : VP κ (pc + 1) lv (.int v :: st)) : VP κ pc lv st := by
  obtain ⟨p, l, e, R, s, m, args, below, meth, c, Q, D', cl', A, nL'⟩ := κ
  obtain ⟨rfl, rfl, rfl, rfl, rfl, hx, hb, hml, hown, hts, hK, hNw, hA⟩ := x
  exact fun H ls hS hL => lv_iconst hx hb hdg hv (k H ls hS hL)
theorem VP_bipush (x : Cx κ lc rm cc nL Ts own D cl tys) {n : Int} {v : Int32} (hdg : decode cc pc = .ok (.bipush n, 2)) (hv : (Int8.ofInt n).toInt32 = v) (k : VP κ (pc + 2) lv (.int v :: st)) : VP κ pc lv st := by
  obtain ⟨p, l, e, R, s, m, args, below, meth, c, Q, D', cl', A, nL'⟩ := κ
  obtain ⟨rfl, rfl, rfl, rfl, rfl, hx, hb, hml, hown, hts, hK, hNw, hA⟩ := x
  exact fun H ls hS hL => lv_bipush hx hb hdg hv (k H ls hS hL)
theorem VP_iload_n (x : Cx κ lc rm cc nL Ts own D cl tys) {j : Fin 4} (i : Nat) {v : Int32} (hdg : decode cc pc = .ok (.iload_n j, 1)) (hi : (j : Nat) = i) (hv : lv.lookup i = some (.int v)) (k : VP κ (pc + 1) lv (.int v :: st)) : VP κ pc lv st := by
  obtain ⟨p, l, e, R, s, m, args, below, meth, c, Q, D', cl', A, nL'⟩ := κ
  obtain ⟨rfl, rfl, rfl, rfl, rfl, hx, hb, hml, hown, hts, hK, hNw, hA⟩ := x
  exact fun H ls hS hL => lv_iload_n hx hb hdg hi (hL.2.2 _ (lv_lk hv)) (k H ls hS hL)
theorem VP_aload_n (x : Cx κ lc rm cc nL Ts own D cl tys) {j : Fin 4} (i : Nat) {v : Nat} (hdg : decode cc pc = .ok (.aload_n j, 1)) (hi : (j : Nat) = i) (hv : lv.lookup i = some (.ref v)) (k : VP κ (pc + 1) lv (.ref v :: st)) : VP κ pc lv st := by
  obtain ⟨p, l, e, R, s, m, args, below, meth, c, Q, D', cl', A, nL'⟩ := κ
  obtain ⟨rfl, rfl, rfl, rfl, rfl, hx, hb, hml, hown, hts, hK, hNw, hA⟩ := x
  exact fun H ls hS hL => lv_aload_n hx hb hdg hi (hL.2.2 _ (lv_lk hv)) (k H ls hS hL)
theorem VP_get (x : Cx κ lc rm cc nL Ts own D cl tys) (hP : Pk κ wc) (q0 ci j : Nat) {C : String} {T : u_T} {N index a : Nat} {fs : List Value} {v : Value} (hin : ∀ w ∈ u_ws C T N, w ∈ Ts) (he : wc[q0]? = some (a, .inr (ci, fs))) (hc : cl[ci]? = some (C, T, N)) (hj : j < N) (hlink : Cond.fieldLink own index (T j).1 (T j).2.1 (T j).2.2.1 ∈ Ts) (hv : fs[j]? = some v) (hdg : decode cc pc = .ok (.getfield index, 3))
    (k : VP κ (pc + 3) lv (v :: st)) : VP κ pc lv (.ref a :: st) := by
  obtain ⟨p, l, e, R, s, m, args, below, meth, c, Q, D', cl', A, nL'⟩ := κ
  obtain ⟨rfl, rfl, rfl, rfl, rfl, hx, hb, hml, hown, hts, hK, hNw, hA⟩ := x
  exact fun H ls hS hL => va_get hx hb hts hin hown hK (va_P.same hP hS) q0 he hc j hj (hts _ hlink) (fun _ h => h) hv hdg (k H ls hS hL)
theorem VP_iald (x : Cx κ lc rm cc nL Ts own D cl tys) (hP : Pk κ wc) (q0 t0 : Nat) {a : Nat} {cA : ClassId} {n j : Nat} {f : Nat → Int32} (ha : wc[q0]? = some (a, .inl (cA, n, .inl f))) (ht : tys[t0]? = some (cA, .int)) (hdg : decode cc pc = .ok (.iaload, 1)) (hn : j < n) (hn2 : n < 2147483648)
    (k : VP κ (pc + 1) lv (.int (f j) :: st)) : VP κ pc lv (.int (nI j) :: .ref a :: st) := by
  obtain ⟨p, l, e, R, s, m, args, below, meth, c, Q, D', cl', A, nL'⟩ := κ
  obtain ⟨rfl, rfl, rfl, rfl, rfl, hx, hb, hml, hown, hts, hK, hNw, hA⟩ := x
  exact fun H ls hS hL => va_iald hx hb hK (va_P.same hP hS) q0 t0 ha ht (vp_in_nI hn hn2) hdg (by rw [nI_clamp (Nat.lt_trans hn hn2)]; exact k H ls hS hL)
theorem VP_if_lt (x : Cx κ lc rm cc nL Ts own D cl tys) {a : Int32} {off : Int} (tgt : Nat) (hdg : decode cc pc = .ok (.ifCond .lt off, 3)) (ht : (pc : Int) + off = (tgt : Int)) (kt : a < 0 → VP κ tgt lv st) (kf : ¬ a < 0 → VP κ (pc + 3) lv st) : VP κ pc lv (.int a :: st) := by
  obtain ⟨p, l, e, R, s, m, args, below, meth, c, Q, D', cl', A, nL'⟩ := κ
  obtain ⟨rfl, rfl, rfl, rfl, rfl, hx, hb, hml, hown, hts, hK, hNw, hA⟩ := x
  exact fun H ls hS hL => lv_if_lt hx hb hdg ht (fun h => kt h H ls hS hL) (fun h => kf h H ls hS hL)
theorem VP_if_eq (x : Cx κ lc rm cc nL Ts own D cl tys) {a : Int32} {off : Int} (tgt : Nat) (hdg : decode cc pc = .ok (.ifCond .eq off, 3)) (ht : (pc : Int) + off = (tgt : Int)) (kt : a = 0 → VP κ tgt lv st) (kf : ¬ a = 0 → VP κ (pc + 3) lv st) : VP κ pc lv (.int a :: st) := by
  obtain ⟨p, l, e, R, s, m, args, below, meth, c, Q, D', cl', A, nL'⟩ := κ
  obtain ⟨rfl, rfl, rfl, rfl, rfl, hx, hb, hml, hown, hts, hK, hNw, hA⟩ := x
  exact fun H ls hS hL => lv_if_eq hx hb hdg ht (fun h => kt h H ls hS hL) (fun h => kf h H ls hS hL)
theorem VP_icmp_lt (x : Cx κ lc rm cc nL Ts own D cl tys) {a b : Int32} {off : Int} (tgt : Nat) (hdg : decode cc pc = .ok (.if_icmp .lt off, 3)) (ht : (pc : Int) + off = (tgt : Int)) (kt : a < b → VP κ tgt lv st) (kf : ¬ a < b → VP κ (pc + 3) lv st) : VP κ pc lv (.int b :: .int a :: st) := by
  obtain ⟨p, l, e, R, s, m, args, below, meth, c, Q, D', cl', A, nL'⟩ := κ
  obtain ⟨rfl, rfl, rfl, rfl, rfl, hx, hb, hml, hown, hts, hK, hNw, hA⟩ := x
  exact fun H ls hS hL => lv_icmp_lt hx hb hdg ht (fun h => kt h H ls hS hL) (fun h => kf h H ls hS hL)
theorem VP_icmp_le (x : Cx κ lc rm cc nL Ts own D cl tys) {a b : Int32} {off : Int} (tgt : Nat) (hdg : decode cc pc = .ok (.if_icmp .le off, 3)) (ht : (pc : Int) + off = (tgt : Int)) (kt : a ≤ b → VP κ tgt lv st) (kf : ¬ a ≤ b → VP κ (pc + 3) lv st) : VP κ pc lv (.int b :: .int a :: st) := by
  obtain ⟨p, l, e, R, s, m, args, below, meth, c, Q, D', cl', A, nL'⟩ := κ
  obtain ⟨rfl, rfl, rfl, rfl, rfl, hx, hb, hml, hown, hts, hK, hNw, hA⟩ := x
  exact fun H ls hS hL => lv_icmp_le hx hb hdg ht (fun h => kt h H ls hS hL) (fun h => kf h H ls hS hL)
theorem VP_icmp_eq (x : Cx κ lc rm cc nL Ts own D cl tys) {a b : Int32} {off : Int} (tgt : Nat) (hdg : decode cc pc = .ok (.if_icmp .eq off, 3)) (ht : (pc : Int) + off = (tgt : Int)) (kt : a = b → VP κ tgt lv st) (kf : ¬ a = b → VP κ (pc + 3) lv st) : VP κ pc lv (.int b :: .int a :: st) := by
  obtain ⟨p, l, e, R, s, m, args, below, meth, c, Q, D', cl', A, nL'⟩ := κ
  obtain ⟨rfl, rfl, rfl, rfl, rfl, hx, hb, hml, hown, hts, hK, hNw, hA⟩ := x
  exact fun H ls hS hL => lv_icmp_eq hx hb hdg ht (fun h => kt h H ls hS hL) (fun h => kf h H ls hS hL)
end VPS
/-- a method that changes nothing at all -/
def CP0 (l : Launch) (y : MethodName) (wds : List Cond) (rm : Room) (D : va_G) (cl : List vw_C) (tys : List (ClassId × FieldType)) (av : List Value) (wc : va_W) (r : Int32) : Prop :=
  ∀ sz : Nat, Met l y wds rm (va_Pc av (cP D cl tys wc sz)) (va_Qi (fun (r' : Int32) (_ : Unit) => r' = r) (fun _ _ => True) (fun _ => False)) rm.cells rm.slots (fun _ => False)
theorem CP0.ofP {l : Launch} {y : MethodName} {wds wds' : List Cond} {rm : Room} {D : va_G} {cl : List vw_C} {tys : List (ClassId × FieldType)} {av : List Value} {wc : va_W} {cc : ByteArray} {maxL : Nat} {r : Int32} (hz : rm.cells = 0 ∧ rm.slots = 0)
    (hy : plainName y.cls = true) (hw : wds = Cond.code y cc maxL (some .int) :: wds') (hm : (lg_sl av).length ≤ maxL)
    (body : ∀ κ : Ku, Cx κ l rm cc maxL wds' y.cls D cl tys → Pk κ wc → (∀ (pc : Nat) (lv : List (Nat × Value)), decode cc pc = .ok (.ireturn, 1) → VP κ pc lv [.int r]) → VP κ 0 (lv_args 0 av) []) : CP0 l y wds rm D cl tys av wc r := by
  intro sz
  rw [hz.1, hz.2]
  refine Met.ofW (cc := cc) (maxL := maxL) (ret := (some .int)) hy hw ?_
  intro p e s m args below meth c s₁ B hml hv
  obtain ⟨rfl, hsz, hP, hK, hNw, hD0⟩ := hv
  have hx := B.exec
  have hb := B.bytes
  have hr := B.returns
  have hts := atoms_spec (ws := wds) B.pre
  have hown : s.vm.findClass y.cls = some m.cls := findClass_of_methodNamed B.named
  have hlocks := B.notSynchronized
  have hl := lv_entry av (n := maxL) hm
  rw [lg_entry_eq]
  generalize (lg_sl av ++ List.replicate (maxL - (lg_sl av).length) Slot.unset).toArray = ls at hl ⊢
  exact body (p, l, e, (headSpec wds rm).room, s, m, av.toArray, below, meth, c, _, D, cl, fun _ => True, maxL) ⟨rfl, rfl, rfl, rfl, rfl, hx, hb, hml, hown, fun w h => hts w (by rw [hw]; exact List.mem_cons_of_mem _ h), hK, hNw, fun _ _ => trivial⟩ hP
    (fun pc lv hd H ls hS hL => W.zret (v := r) hx hb hr rfl (fun t ht hW => ⟨⟨r, (), rfl, rfl, trivial⟩, hS.F ht⟩) hS.2.2 hd) s.heap ls va_S.rf hl
section VPC
variable {κ : Ku} {lc : Launch} {rm : Room} {cc : ByteArray} {nL : Nat} {Ts : List Cond} {own : String} {D : va_G} {cl : List vw_C} {tys : List (ClassId × FieldType)}
variable {wc : va_W} {pc : Nat} {lv : List (Nat × Value)} {st : List Value}
theorem VP_call (x : Cx κ lc rm cc nL Ts own D cl tys) (hPk : Pk κ wc) (hDk : va_D (fun _ => True) wc) {y : MethodName} {wds wds' : List Cond} {rmC : Room} {bytes : ByteArray} {maxL index : Nat} {C : String} {b ci : Nat} {rest : List Value} {wc1 : va_W} {T : u_T} {N : Nat} {fs : List Value} {r : Int32} {ret : Option FieldType} (hM : CP0 lc y wds rmC D cl tys [.ref b] wc1 r) (g : GoodIn Ts (wsV own index C y wds)) (hw : wds = Cond.code y bytes maxL ret :: wds') (hd : y.cls = C ∧ y.cls ≠ "java/lang/invoke/MethodHandle" ∧ y.cls ≠ "java/lang/invoke/VarHandle" ∧ (parseMethodDescriptor y.desc).map (fun d => d.parameters.length) = some 0)
    (hR : rmC.frames + 1 ≤ rm.frames ∧ 8 + (maxL + 11) + rmC.locals ≤ rm.locals) (hz : rmC.cells = 0 ∧ rmC.slots = 0) (q0 : Nat) (he : wc[q0]? = some (b, .inr (ci, fs))) (hc : cl[ci]? = some (C, T, N)) (isC : List Nat) (hC : isC.map (fun i => wc[i]?) = wc1.map some) (hnd : va_nd isC = true)
    (hst : st = .ref b :: rest) (hro : (rest.map fun v => v.category).sum ≤ 8) (hdg : decode cc pc = .ok (.invokevirtual index, 3))
    (k : VP κ (pc + 3) lv (.int r :: rest)) : VP κ pc lv st := by
  obtain ⟨p, l, e, R, s, m, args, below, meth, c, Q, D', cl', A, nL'⟩ := κ
  obtain ⟨rfl, rfl, rfl, rfl, rfl, hx, hb, hml, hown, hts, hK, hNw, hA⟩ := x
  subst hst
  intro H ls hS hL
  have hP : va_P D' cl' wc H := va_P.same hPk hS
  have hPc : va_P D' cl' wc1 H := by
    intro k q hq
    have h1 : (isC.map (fun i => wc[i]?))[k]? = some (some q) := by rw [hC, List.getElem?_map, hq]; rfl
    rw [List.getElem?_map] at h1
    cases hi : isC[k]? with
    | none => rw [hi] at h1; cases h1
    | some i => rw [hi] at h1; exact hP i q (Option.some.inj h1)
  have hDc := hDk.sub (ws' := wc1) isC hnd hC
  obtain ⟨hz1, hz2⟩ := hz
  have hM1 := hM H.size
  rw [hz1, hz2] at hM1
  have hrun := va_runV (H := H) (locs := []) (cells := 0) (slots := 0) (As := []) (rest := rest) (mc := 0) (ms := 0) (g := F0 m pc ls (.ref b :: rest)) (e := e) (below := below) (meth := meth) ⟨hx, hb, hml, hown, hts⟩ hM1 (cwV 0 hts g hw hz1 hz2 hd hR) ⟨fun a U g mk q => by obtain ⟨q0, q1, qP, qK, qN, qD⟩ := q; exact ⟨q0, q1, qP, va_K.moved (u := U) (U := U.calling g mk a) (Vm.Alike.refl U.vm) qK, va_Nw.same rfl (rfl : U.vm = (U.calling g mk a).vm) qN, qD⟩, va_recv hK hP hc he, fun U hU hW => ⟨rfl, by rw [hU], by rw [hU]; exact hPc, va_K.moved hW.alike hK, va_Nw.warmM hW hNw, hDc⟩⟩ rfl rfl hL.1 rfl (lv_room hro) hdg ⟨Nat.zero_le _, Nat.zero_le _⟩
  intro T0 hT0 X
  obtain ⟨v, st0, t, T', L, h0, X', hLf, e1, e2, ⟨⟨r0, u, hv, hp, -⟩, hz, hk⟩, hst⟩ := hrun T0 hT0 X
  have hL0 : L = [] := by
    cases L with
    | nil => rfl
    | cons a l => exact (hLf a List.mem_cons_self).elim
  subst hL0
  cases hv
  subst hp
  rw [h0] at hz hk
  obtain ⟨tf, a1, b1⟩ := k T'.heap ls ⟨Nat.le_trans hS.1 (by rw [e1]; exact hz), fun q h1 h2 => by rw [e1, hk q (Nat.lt_of_lt_of_le h1 hS.1) (fun z => z)]; exact hS.2.1 q h1 h2, fun q hq => by cases hq⟩ hL T' rfl X'
  exact ⟨tf, hst _ a1, b1⟩
end VPC
/-- the words that making an exception asks, but the two that speak of the heap -/
def ownTab (own : String) (ic : Nat) (X : String) (names : List String) (Ts : List Cond) : Prop := ∀ w ∈ Bundle.ownAtoms own ic X names, w ∈ Ts ∨ w = .isRef (.static Bundle.tN "UNASSIGNED_STACK" Bundle.steD) ∨ w = .isRef (.static Bundle.tN "SUPPRESSED_SENTINEL" Bundle.listD) ∨ w = .laysStatic Bundle.tN "UNASSIGNED_STACK" Bundle.steD ∨ w = .laysStatic Bundle.tN "SUPPRESSED_SENTINEL" Bundle.listD ∨ (∃ q ∈ casts, w = .castable q q) ∨ ∃ q ∈ decls, w = .declares (Bundle.initS q)
theorem va_Zq.isRef {C n d : String} {A : Nat → Prop} {args : Array Value} {U : State} (h : va_Zq C n d A U U.heap) : (Cond.isRef (.static C n d)).before args U = true := by
  rcases h with ⟨cf, kf, fi, f, a, cell, h1, h2, h3, h4, h5, h6, h7, h8⟩ | ⟨t, cf, kf, fi, f, a, cell, h1, h2, h3, h4, h5, h6, h7, h8⟩
  · simp [Cond.before, Cond.holds, Cond.value, Term.eval, State.fieldNamed?, h1, h2, h4, h5, h6, h7, Value.isRef]
  · simp [Cond.before, Cond.holds, Cond.value, Term.eval, State.fieldNamed?, h1, h2, h4, h5, h6, h7, Value.isRef]
theorem CT.ofP {l : Launch} (hl : l.stackTraces = false) {y : MethodName} {wds wds' : List Cond} {rm : Room} {D : va_G} {cl : List vw_C} {tys : List (ClassId × FieldType)} {av : List Value} {wc : va_W} {cc : ByteArray} {maxL : Nat} {CX : String} {ty : FieldType} (names : List String) (ia ib ic : Nat) (tx : String)
    (hy : plainName y.cls = true) (hyo : y.cls = RX6) (hw : wds = Cond.code y cc maxL (some ty) :: wds') (hm : (lg_sl av).length ≤ maxL) (hcls : Bundle.fit CX = true) (hnm : ∀ n ∈ names, Bundle.fit n = true) (htab : ownTab RX6 ic CX names wds') (hclk : Cond.classLink RX6 ia CX ∈ wds') (hini : Cond.initialized CX ∈ wds') (htx : (ib, tx) ∈ strs)
    (hrc : rm.cells = 1) (hrs : rm.slots = 6) (hRf : names.length + 3 < rm.frames) (hRl : 13 * (names.length + 1) + 43 ≤ rm.locals)
    (body : ∀ κ : Ku, Cx κ l rm cc maxL wds' y.cls D cl tys → Pk κ wc → va_D (fun _ => True) wc → (∀ (pc : Nat) (lv : List (Nat × Value)), decode cc pc = .ok (.new ia, 3) → decode cc (pc + 3) = .ok (.dup, 1) → decode cc (pc + 4) = .ok (.ldc ib, 2) → decode cc (pc + 6) = .ok (.invokespecial ic, 3) → decode cc (pc + 9) = .ok (.athrow, 1) → VP κ pc lv []) → VP κ 0 (lv_args 0 av) []) : CT l y wds rm D cl tys av wc CX := by
  intro sz
  rw [hrc, hrs]
  refine MetFree.of_bodyS (code := cc) (maxLocals := maxL) (ret := some ty) hy ?_ ?_
  · intro args s m h hn
    obtain ⟨meth, c, h1, h2, h3, h4, h5, h6, -, -⟩ := Cond.code_spec hn (atoms_spec (ws := wds) h _ (by rw [hw]; exact List.mem_cons_self))
    exact ⟨meth, c, h1, h2, h3, h4, h5, h6⟩
  intro p e s m args below meth c s₁ B hml hv _
  obtain ⟨rfl, ⟨hsz, hP, hK, hNw, hD0⟩, hTX⟩ := hv
  have hx := B.exec
  have hb := B.bytes
  have hts := atoms_spec (ws := wds) B.pre
  have hown : s.vm.findClass y.cls = some m.cls := findClass_of_methodNamed B.named
  have hlocks := B.notSynchronized
  have hcodeV := hts (.code y cc maxL (some ty)) (by rw [hw]; exact List.mem_cons_self)
  have hemp := B.noHandlers hcodeV
  have hh0 : s₁.heap = s.heap := by rw [B.state]; rfl
  have hl0 := lv_entry av (n := maxL) hm
  have hts' : ∀ w ∈ wds', w.before av.toArray s = true := fun w h => hts w (by rw [hw]; exact List.mem_cons_of_mem _ h)
  let Qe : State → Prop := fun t => ∃ o, t.status = .running ∧ Ended t below o ∧ ∃ x, o = .threw x ∧ ((∃ ce, t.heap[x]? = some ce ∧ ce.vm = .none ∧ s.vm.findClass CX = some ce.cls ∧ s.vm.assignable ce.cls ce.cls = true) ∧ va_P D cl wc t.heap ∧ va_F (va_A wc sz) s t) ∧ ∃ L, (s.WarmedH t.vm ∧ s.sameButNew ({ t with vm := s.vm } : State) L 1 6) ∧ ∀ q ∈ L, va_A wc sz q.base
  have hgoal : W p l e (headSpec wds rm).room s m av.toArray below meth c s.heap [] 0 0 Qe (entryFrame m av.toArray maxL) := by
    rw [lg_entry_eq]
    generalize (lg_sl av ++ List.replicate (maxL - (lg_sl av).length) Slot.unset).toArray = ls at hl0 ⊢
    refine body (p, l, e, (headSpec wds rm).room, s, m, av.toArray, below, meth, c, Qe, D, cl, fun _ => True, maxL) ⟨rfl, rfl, rfl, rfl, rfl, hx, hb, hml, hown, hts', hK, hNw, fun _ _ => trivial⟩ hP hD0 ?_ s.heap ls va_S.rf hl0
    intro pc lv d0 d3 d4 d6 d9 H ls hS hL T hT X
    obtain ⟨sa, hsa⟩ := hTX.2.2.1 _ htx
    rw [hyo] at hown
    obtain ⟨U, z, g1, g2, g3, g4, g5, ce, g6, g7, g8, g9⟩ := throwNew X hx hl (own := RX6) (cls := CX) (text := tx) (names := names) (ia := ia) (ib := ib) (ic := ic) (pc := pc) (ls := ls) (sa := sa) hown hcls hnm
      (fun w hw => by
        rcases htab w hw with h | h | h | h | h | ⟨q, hq, h⟩ | ⟨q, hq, h⟩
        · exact hts' w h
        · rw [h]; exact va_Zq.isRef hTX.1
        · rw [h]; exact va_Zq.isRef hTX.2.1
        · rw [h]; exact hTX.2.2.2.2.1.use
        · rw [h]; exact hTX.2.2.2.2.2.1.use
        · rw [h]; exact va_Nw.use rfl (hTX.2.2.2.2.2.2.1 q hq)
        · rw [h]; exact va_Nw.use rfl (hTX.2.2.2.2.2.2.2 q hq))
      (hts' _ hclk) (hts' _ hini) hsa.1 hsa.2 (by rw [hml]; exact hL.1) hemp (by rw [hb]; exact d0) (by rw [hb]; exact d3) (by rw [hb]; exact d4) (by rw [hb]; exact d6) (by rw [hb]; exact d9) (by show 1 ≤ rm.cells; omega) (by show 6 ≤ rm.slots; omega) hRf hRl hlocks
    have hsame : ∀ q, q < s.heap.size → U.heap[q]? = s.heap[q]? := by
      intro q hq
      obtain ⟨c', k1, k2, k3, k4⟩ := g5.2.2.2.2.2 q s.heap[q] (Array.getElem?_eq_getElem hq)
      have k1 : U.heap[q]? = some c' := k1
      have k5 : c'.slots = (s.heap[q]).slots := by
        apply Array.ext
        · exact k3
        · intro i h1 h2
          have := k4 i (by simp)
          rw [Array.getElem?_eq_getElem h1, Array.getElem?_eq_getElem h2] at this
          exact Option.some.inj this
      rw [k1, Array.getElem?_eq_getElem hq]
      congr 1
      rw [k2, k5]
    have hle : s.heap.size ≤ U.heap.size := g5.2.1
    refine ⟨U, g1, .threw z, g2, g3, z, rfl, ⟨⟨ce, g6, g7, g8, g9⟩, ?_, hle, fun q h1 _ => hsame q h1⟩, [], ⟨g4, g5⟩, fun q hq => by cases hq⟩
    exact va_P.same hP ⟨hle, fun q h1 _ => hsame q h1, fun q hq => by cases hq⟩
  obtain ⟨t, a1, o, b1, b2, b3⟩ := hgoal s₁ hh0 (Stand.of_body B)
  exact ⟨t, o, a1, b1, b2, b3⟩
/-- the check of a list of words against places in the tables -/
def tabOk (w : Cond) (i : Nat) : Bool := (decide (lw_tbl[i]? = some w) && goodWord w) || decide (w = .isRef (.static Bundle.tN "UNASSIGNED_STACK" Bundle.steD)) || decide (w = .isRef (.static Bundle.tN "SUPPRESSED_SENTINEL" Bundle.listD)) || decide (w = .laysStatic Bundle.tN "UNASSIGNED_STACK" Bundle.steD) || decide (w = .laysStatic Bundle.tN "SUPPRESSED_SENTINEL" Bundle.listD) || casts.any (fun q => decide (w = .castable q q)) || decls.any (fun q => decide (w = .declares (Bundle.initS q)))
def tabsOk : List Cond → List Nat → Bool
  | [], _ => true
  | w :: ws, i :: is => tabOk w i && tabsOk ws is
  | _ :: _, [] => false
theorem tabOk_spec {w : Cond} {i : Nat} (h : tabOk w i = true) : w ∈ gw ∨ w = .isRef (.static Bundle.tN "UNASSIGNED_STACK" Bundle.steD) ∨ w = .isRef (.static Bundle.tN "SUPPRESSED_SENTINEL" Bundle.listD) ∨ w = .laysStatic Bundle.tN "UNASSIGNED_STACK" Bundle.steD ∨ w = .laysStatic Bundle.tN "SUPPRESSED_SENTINEL" Bundle.listD ∨ (∃ q ∈ casts, w = .castable q q) ∨ ∃ q ∈ decls, w = .declares (Bundle.initS q) := by
  simp only [tabOk, Bool.or_eq_true, Bool.and_eq_true, decide_eq_true_eq, List.any_eq_true] at h
  rcases h with (((((⟨h, hg⟩ | h) | h) | h) | h) | h) | h
  · exact Or.inl (gm (List.mem_of_getElem? h) hg)
  · exact Or.inr (Or.inl h)
  · exact Or.inr (Or.inr (Or.inl h))
  · exact Or.inr (Or.inr (Or.inr (Or.inl h)))
  · exact Or.inr (Or.inr (Or.inr (Or.inr (Or.inl h))))
  · exact Or.inr (Or.inr (Or.inr (Or.inr (Or.inr (Or.inl h)))))
  · exact Or.inr (Or.inr (Or.inr (Or.inr (Or.inr (Or.inr h)))))
theorem ownTab_of {own : String} {ic : Nat} {X : String} {names : List String} (is : List Nat) (h : tabsOk (Bundle.ownAtoms own ic X names) is = true) : ownTab own ic X names gw := by
  unfold ownTab
  generalize Bundle.ownAtoms own ic X names = ws at h
  induction ws generalizing is with
  | nil => intro w hw; cases hw
  | cons v vs ih =>
    cases is with
    | nil => cases h
    | cons i is =>
      have h := Bool.and_eq_true_iff.mp h
      intro w hw
      rcases List.mem_cons.mp hw with rfl | hw
      · exact tabOk_spec h.1
      · exact ih is h.2 w hw
theorem ow_74 : ownTab RX6 74 "java/lang/IllegalStateException" ["java/lang/RuntimeException", "java/lang/Exception"] gw := ownTab_of [44, 471, 480, 484, 487, 489, 472, 473, 58, 59, 474, 479, 485, 505, 461, 506, 463, 507, 465, 475, 476, 477, 478, 467,   501, 502, 504, 467, 492, 493, 494, 495, 453, 495, 496, 497, 498, 455, 498, 499, 500, 501, 457, 491, 450, 451, 458,   459, 460, 462, 464, 466, 9999, 9999, 470, 469, 468] (by decide +kernel)
theorem ow_99 : ownTab RX6 99 "java/lang/IndexOutOfBoundsException" ["java/lang/RuntimeException", "java/lang/Exception"] gw := ownTab_of [44, 471, 480, 484, 487, 489, 472, 473, 58, 59, 474, 479, 485, 505, 461, 506, 463, 507, 465, 475, 476, 477, 478, 467,   501, 502, 504, 467, 552, 553, 554, 495, 453, 495, 496, 497, 498, 455, 498, 499, 500, 501, 457, 551, 542, 543, 544,   483, 545, 546, 547, 548, 9999, 9999, 470, 469, 549] (by decide +kernel)
theorem ow_135 : ownTab RX6 135 "java/lang/IllegalArgumentException" ["java/lang/RuntimeException", "java/lang/Exception"] gw := ownTab_of [44, 471, 480, 484, 487, 489, 472, 473, 58, 59, 474, 479, 485, 505, 461, 506, 463, 507, 465, 475, 476, 477, 478, 467,   501, 502, 504, 467, 586, 587, 588, 495, 453, 495, 496, 497, 498, 455, 498, 499, 500, 501, 457, 585, 576, 577, 578,   482, 579, 580, 581, 582, 9999, 9999, 470, 469, 583] (by decide +kernel)
