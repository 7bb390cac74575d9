/-! Contracts whose answer and world are told; laid by prog/mkc.py -/
def wSet (ws : va_W) : List Nat → va_W → va_W
  | i :: is, e :: es => wSet (ws.set i e) is es
  | _, _ => ws
theorem wSet_get : ∀ (is : List Nat) (es ws : va_W), is.length = es.length → ∀ (k : Nat) (q : Nat × va_E), (wSet ws is es)[k]? = some q → (∃ j : Nat, is[j]? = some k ∧ es[j]? = some q) ∨ (k ∉ is ∧ ws[k]? = some q)
  | [], [], ws, _, k, q, h => Or.inr ⟨by simp, h⟩
  | [], _ :: _, _, hl, _, _, _ => by cases hl
  | _ :: _, [], _, hl, _, _, _ => by cases hl
  | i :: is, e :: es, ws, hl, k, q, h => by
    rcases wSet_get is es (ws.set i e) (by simpa using hl) k q h with ⟨j, h1, h2⟩ | ⟨h1, h2⟩
    · exact Or.inl ⟨j + 1, by simpa using h1, by simpa using h2⟩
    · by_cases hk : i = k
      · subst hk
        rw [List.getElem?_set_self'] at h2
        cases hw : ws[i]? with
        | none => rw [hw] at h2; cases h2
        | some z =>
          rw [hw] at h2
          exact Or.inl ⟨0, rfl, h2⟩
      · rw [List.getElem?_set_ne hk] at h2
        refine Or.inr ⟨fun hm => ?_, h2⟩
        rcases List.mem_cons.mp hm with h3 | h3
        · exact hk h3.symm
        · exact h1 h3
theorem set_fst {ws : va_W} {i : Nat} {e : Nat × va_E} (h : (ws[i]?).map Prod.fst = some e.1) : (ws.set i e).map Prod.fst = ws.map Prod.fst := by
  rw [List.map_set]
  apply List.ext_getElem?
  intro k
  by_cases hk : i = k
  · subst hk
    rw [List.getElem?_set_self', List.getElem?_map, h]
    rfl
  · rw [List.getElem?_set_ne hk]
theorem wSet_fst : ∀ (is : List Nat) (es ws : va_W), is.map (fun i => (ws[i]?).map Prod.fst) = es.map (fun e => some e.1) → (wSet ws is es).map Prod.fst = ws.map Prod.fst
  | [], [], _, _ => rfl
  | [], _ :: _, _, _ => rfl
  | _ :: _, [], _, _ => rfl
  | i :: is, e :: es, ws, h => by
    simp only [List.map_cons, List.cons.injEq] at h
    have h1 := set_fst (ws := ws) (i := i) (e := e) h.1
    show (wSet (ws.set i e) is es).map Prod.fst = _
    rw [wSet_fst is es (ws.set i e) ?_, h1]
    rw [← h.2]
    apply List.map_congr_left
    intro k _
    have h2 : ((ws.set i e).map Prod.fst)[k]? = (ws.map Prod.fst)[k]? := by rw [h1]
    rw [List.getElem?_map, List.getElem?_map] at h2
    exact h2
theorem vD_fst {A : Nat → Prop} {ws ws' : va_W} (h : ws'.map Prod.fst = ws.map Prod.fst) (hD : va_D A ws) : va_D A ws' := by
  have key : ∀ (k : Nat) (q : Nat × va_E), ws'[k]? = some q → ∃ q' : Nat × va_E, ws[k]? = some q' ∧ q'.1 = q.1 := by
    intro k q hq
    have h1 : (ws'.map Prod.fst)[k]? = some q.1 := by rw [List.getElem?_map, hq]; rfl
    rw [h, List.getElem?_map] at h1
    cases hw : ws[k]? with
    | none => rw [hw] at h1; cases h1
    | some z => rw [hw] at h1; exact ⟨z, rfl, Option.some.inj h1⟩
  refine ⟨fun i j p q hp hq e => ?_, fun k q hq => ?_⟩
  · obtain ⟨p', hp', ep⟩ := key i p hp
    obtain ⟨q', hq', eq⟩ := key j q hq
    exact hD.1 i j p' q' hp' hq' (by rw [ep, eq]; exact e)
  · obtain ⟨q', hq', eq⟩ := key k q hq
    rw [← eq]
    exact hD.2 k q' hq'
/-- what a call gave back, laid into its places -/
theorem vj {A0 : Nat → Prop} {D : va_G} {cl : List vw_C} {ws wc w1 : va_W} {H H1 : Heap} (hP : va_P D cl ws H) (hD : va_D A0 ws) (isC : List Nat) (hC : isC.map (fun i => ws[i]?) = wc.map some) (hf : w1.map Prod.fst = wc.map Prod.fst)
    (hk : ∀ q : Nat, q < H.size → ¬ va_A wc H.size q → H1[q]? = H[q]?) (hP1 : va_P D cl w1 H1) : va_P D cl (wSet ws isC w1) H1 ∧ va_D A0 (wSet ws isC w1) := by
  have hlen : isC.length = wc.length := by simpa using congrArg List.length hC
  have hlen1 : w1.length = wc.length := by simpa using congrArg List.length hf
  have at' : ∀ (j : Nat) (q : Nat × va_E), wc[j]? = some q → ∃ i, isC[j]? = some i ∧ ws[i]? = some q := by
    intro j q hq
    have h1 : (isC.map (fun i => ws[i]?))[j]? = some (some q) := by rw [hC, List.getElem?_map, hq]; rfl
    rw [List.getElem?_map] at h1
    cases hi : isC[j]? with
    | none => rw [hi] at h1; cases h1
    | some i => rw [hi] at h1; exact ⟨i, rfl, Option.some.inj h1⟩
  refine ⟨fun k q hq => ?_, vD_fst (wSet_fst isC w1 ws ?_) hD⟩
  · rcases wSet_get isC w1 ws (by rw [hlen, hlen1]) k q hq with ⟨j, -, h2⟩ | ⟨h1, h2⟩
    · exact hP1 j q h2
    · have h3 := hP k q h2
      refine h3.kept (hk q.1 h3.lt ?_)
      rintro (⟨j, e, hj⟩ | hj)
      · obtain ⟨i, hi, hwi⟩ := at' j _ hj
        have : i = k := hD.1 i k _ _ hwi h2 rfl
        subst this
        exact h1 (List.mem_of_getElem? hi)
      · exact absurd h3.lt (Nat.not_lt.mpr hj)
  · apply List.ext_getElem?
    intro j
    rw [List.getElem?_map, List.getElem?_map]
    cases hj : wc[j]? with
    | none =>
      have hj' : wc.length ≤ j := by simpa using hj
      rw [List.getElem?_eq_none (by omega), List.getElem?_eq_none (by omega)]
      rfl
    | some q =>
      obtain ⟨i, hi, hwi⟩ := at' j q hj
      have h2 : (w1.map Prod.fst)[j]? = some q.1 := by rw [hf, List.getElem?_map, hj]; rfl
      rw [List.getElem?_map] at h2
      cases hw : w1[j]? with
      | none => rw [hw] at h2; cases h2
      | some z =>
        rw [hw] at h2
        rw [hi]
        simp only [Option.map_some, hwi]
        exact congrArg (fun x => some (some x)) (Option.some.inj h2).symm
/-- a world with some places laid anew: a plan names, place by place, which of the new cells comes there -/
def wPut : va_W → List (Option Nat) → va_W → va_W
  | [], _, _ => []
  | c :: cs, [], _ => c :: cs
  | c :: cs, none :: ps, w => c :: wPut cs ps w
  | c :: cs, some j :: ps, w => (w[j]?).getD c :: wPut cs ps w
theorem wPut_get : ∀ (ws : va_W) (ps : List (Option Nat)) (w : va_W) (k : Nat) (q : Nat × va_E), (wPut ws ps w)[k]? = some q → (∃ j : Nat, ps[k]? = some (some j) ∧ w[j]? = some q) ∨ (ws[k]? = some q ∧ ∀ j : Nat, ps[k]? = some (some j) → w[j]? = none)
  | [], _, _, _, _, h => by cases h
  | c :: cs, [], _, _, _, h => Or.inr ⟨h, fun j hj => by cases hj⟩
  | c :: cs, none :: ps, w, 0, q, h => Or.inr ⟨h, fun j hj => by cases hj⟩
  | c :: cs, none :: ps, w, k + 1, q, h => wPut_get cs ps w k q h
  | c :: cs, some j :: ps, w, 0, q, h => by
    have h : some ((w[j]?).getD c) = some q := h
    cases hw : w[j]? with
    | none =>
      rw [hw] at h
      exact Or.inr ⟨h, fun i hi => by cases hi; exact hw⟩
    | some e =>
      rw [hw] at h
      exact Or.inl ⟨j, rfl, by rw [hw]; exact h⟩
  | c :: cs, some j :: ps, w, k + 1, q, h => wPut_get cs ps w k q h
theorem wPut_fst : ∀ (ws : va_W) (ps : List (Option Nat)) (w : va_W), (∀ (k j : Nat) (c e : Nat × va_E), ps[k]? = some (some j) → ws[k]? = some c → w[j]? = some e → e.1 = c.1) → (wPut ws ps w).map Prod.fst = ws.map Prod.fst
  | [], _, _, _ => rfl
  | c :: cs, [], _, _ => rfl
  | c :: cs, none :: ps, w, h => by
    show c.1 :: (wPut cs ps w).map Prod.fst = c.1 :: cs.map Prod.fst
    rw [wPut_fst cs ps w (fun k j a e h1 h2 h3 => h (k + 1) j a e h1 h2 h3)]
  | c :: cs, some j :: ps, w, h => by
    show ((w[j]?).getD c).1 :: (wPut cs ps w).map Prod.fst = c.1 :: cs.map Prod.fst
    rw [wPut_fst cs ps w (fun k j a e h1 h2 h3 => h (k + 1) j a e h1 h2 h3)]
    cases hw : w[j]? with
    | none => rfl
    | some e =>
      have := h 0 j c e rfl rfl hw
      show e.1 :: _ = _
      rw [this]
/-- plan and places fit -/
def wChk (is : List Nat) (ps : List (Option Nat)) : Bool := (List.range is.length).all (fun j => match is[j]? with
  | none => false
  | some k => ps[k]? == some (some j)) && (List.range ps.length).all (fun k => match ps[k]? with
  | some (some j) => is[j]? == some k
  | _ => true)
theorem wChk_1 {is : List Nat} {ps : List (Option Nat)} (h : wChk is ps = true) {j k : Nat} (hj : is[j]? = some k) : ps[k]? = some (some j) := by
  have h1 := (Bool.and_eq_true_iff.mp h).1
  have hl : j < is.length := (List.getElem?_eq_some_iff.mp hj).1
  have h2 := List.all_eq_true.mp h1 j (List.mem_range.mpr hl)
  rw [hj] at h2
  simpa using h2
theorem wChk_2 {is : List Nat} {ps : List (Option Nat)} (h : wChk is ps = true) {j k : Nat} (hk : ps[k]? = some (some j)) : is[j]? = some k := by
  have h1 := (Bool.and_eq_true_iff.mp h).2
  have hl : k < ps.length := (List.getElem?_eq_some_iff.mp hk).1
  have h2 := List.all_eq_true.mp h1 k (List.mem_range.mpr hl)
  rw [hk] at h2
  simpa using h2
theorem vj2 {A0 : Nat → Prop} {D : va_G} {cl : List vw_C} {ws wc w1 : va_W} {H H1 : Heap} (hP : va_P D cl ws H) (hD : va_D A0 ws) (isC : List Nat) (hC : isC.map (fun i => ws[i]?) = wc.map some) (hf : w1.map Prod.fst = wc.map Prod.fst)
    (hk : ∀ q : Nat, q < H.size → ¬ va_A wc H.size q → H1[q]? = H[q]?) (hP1 : va_P D cl w1 H1) (ps : List (Option Nat)) (hck : wChk isC ps = true) : va_P D cl (wPut ws ps w1) H1 ∧ va_D A0 (wPut ws ps w1) := by
  have hlen : isC.length = wc.length := by simpa using congrArg List.length hC
  have hlen1 : w1.length = wc.length := by simpa using congrArg List.length hf
  have at' : ∀ (j : Nat) (q : Nat × va_E), wc[j]? = some q → ∃ i, isC[j]? = some i ∧ ws[i]? = some q := by
    intro j q hq
    have h1 : (isC.map (fun i => ws[i]?))[j]? = some (some q) := by rw [hC, List.getElem?_map, hq]; rfl
    rw [List.getElem?_map] at h1
    cases hi : isC[j]? with
    | none => rw [hi] at h1; cases h1
    | some i => rw [hi] at h1; exact ⟨i, rfl, Option.some.inj h1⟩
  refine ⟨fun k q hq => ?_, vD_fst (wPut_fst ws ps w1 ?_) hD⟩
  · rcases wPut_get ws ps w1 k q hq with ⟨j, -, h2⟩ | ⟨h2, h1⟩
    · exact hP1 j q h2
    · have h3 := hP k q h2
      refine h3.kept (hk q.1 h3.lt ?_)
      rintro (⟨j, e, hj⟩ | hj)
      · obtain ⟨i, hi, hwi⟩ := at' j _ hj
        have hik : i = k := hD.1 i k _ _ hwi h2 rfl
        subst hik
        have h4 := h1 j (wChk_1 hck hi)
        have hjl : j < isC.length := (List.getElem?_eq_some_iff.mp hi).1
        rw [List.getElem?_eq_none_iff] at h4
        omega
      · exact absurd h3.lt (Nat.not_lt.mpr hj)
  · intro k j c e h1 h2 h3
    have hi := wChk_2 hck h1
    have h4 : (isC.map (fun i => ws[i]?))[j]? = some (some c) := by rw [List.getElem?_map, hi]; show some ws[k]? = _; rw [h2]
    rw [hC, List.getElem?_map] at h4
    have h5 : (w1.map Prod.fst)[j]? = some e.1 := by rw [List.getElem?_map, h3]; rfl
    rw [hf, List.getElem?_map] at h5
    cases hwc : wc[j]? with
    | none => rw [hwc] at h4; cases h4
    | some z =>
      rw [hwc] at h4 h5
      have h6 : z = c := Option.some.inj (Option.some.inj h4)
      have h7 : z.1 = e.1 := Option.some.inj h5
      rw [← h6, h7]
/-- the world of a call's start -/
abbrev cP (D : va_G) (cl : List vw_C) (tys : List (ClassId × FieldType)) (wc : va_W) (sz : Nat) : State → Prop := fun U => U.heap.size = sz ∧ va_P D cl wc U.heap ∧ va_K D cl tys U ∧ va_Nw nwT U ∧ va_D (fun _ => True) wc
def CI (l : Launch) (y : MethodName) (wds : List Cond) (rm : Room) (D : va_G) (cl : List vw_C) (tys : List (ClassId × FieldType)) (av : List Value) (wc : va_W) (r : Int32) (w1 : va_W) : Prop :=
  ∀ sz : Nat, Met l y wds rm (va_Pc av (cP D cl tys wc sz)) (va_Qi (fun (r' : Int32) (_ : Unit) => r' = r) (fun _ t => va_P D cl w1 t.heap) (va_A wc sz)) rm.cells rm.slots (va_A wc sz)
def CL (l : Launch) (y : MethodName) (wds : List Cond) (rm : Room) (D : va_G) (cl : List vw_C) (tys : List (ClassId × FieldType)) (av : List Value) (wc : va_W) (r : Int64) (w1 : va_W) : Prop :=
  ∀ sz : Nat, Met l y wds rm (va_Pc av (cP D cl tys wc sz)) (va_Ql (fun (r' : Int64) (_ : Unit) => r' = r) (fun _ t => va_P D cl w1 t.heap) (va_A wc sz)) rm.cells rm.slots (va_A wc sz)
def CV (l : Launch) (y : MethodName) (wds : List Cond) (rm : Room) (D : va_G) (cl : List vw_C) (tys : List (ClassId × FieldType)) (av : List Value) (wc : va_W) (w1 : va_W) : Prop :=
  ∀ sz : Nat, Met l y wds rm (va_Pc av (cP D cl tys wc sz)) (va_Qv (fun (_ : Unit) => True) (fun _ t => va_P D cl w1 t.heap) (va_A wc sz)) rm.cells rm.slots (va_A wc sz)
theorem CI.ofV {l : Launch} {y : MethodName} {wds wds' : List Cond} {rm : Room} {D : va_G} {cl : List vw_C} {tys : List (ClassId × FieldType)} {av : List Value} {wc w1 : va_W} {cc : ByteArray} {maxL : Nat} {r : Int32} {ty : FieldType} (hn : narrow ty (.int r) = .int r)
    (hy : plainName y.cls = true) (hw : wds = Cond.code y cc maxL (some ty) :: wds') (hm : (lg_sl av).length ≤ maxL)
    (body : ∀ κ : Ku, Cx κ l rm cc maxL wds' y.cls D cl tys → (∀ (pc : Nat) (lv : List (Nat × Value)), decode cc pc = .ok (.ireturn, 1) → V κ rm.cells rm.slots w1 pc lv [.int r]) → V κ 0 0 wc 0 (lv_args 0 av) []) : CI l y wds rm D cl tys av wc r w1 := by
  intro sz
  refine Met.ofW (cc := cc) (maxL := maxL) (ret := (some ty)) hy hw ?_
  intro p e s m args below meth c s₁ B hml hv
  obtain ⟨rfl, hsz, hP, hK, hNw, hD0⟩ := hv
  have hx := B.exec
  have hb := B.bytes
  have hr := B.returns
  have hts := atoms_spec (ws := wds) B.pre
  have hown : s.vm.findClass y.cls = some m.cls := findClass_of_methodNamed B.named
  have hlocks := B.notSynchronized
  subst hsz
  have hD := hD0.self (sz := s.heap.size)
  generalize hAe : va_A wc s.heap.size = A at hD ⊢
  have hA : ∀ q : Nat, s.heap.size ≤ q → A q := fun q h => by rw [← hAe]; exact Or.inr h
  have hS : va_S A s.heap s.heap [] := va_S.rf
  have hl := lv_entry av (n := maxL) hm
  rw [lg_entry_eq]
  generalize (lg_sl av ++ List.replicate (maxL - (lg_sl av).length) Slot.unset).toArray = ls at hl ⊢
  exact body (p, l, e, (headSpec wds rm).room, s, m, av.toArray, below, meth, c, _, D, cl, A, maxL) ⟨rfl, rfl, rfl, rfl, rfl, hx, hb, hml, hown, fun w h => hts w (by rw [hw]; exact List.mem_cons_of_mem _ h), hK, hNw, hA⟩
    (fun pc lv hd H locs ls hP hD hS hL => W.zret (v := r) hx hb hr hn (fun t ht hW => ⟨⟨r, (), rfl, rfl, by show va_P D cl w1 t.heap; rw [ht]; exact hP⟩, hS.F ht⟩) hS.2.2 hd) s.heap [] ls hP hD hS hl
theorem CL.ofV {l : Launch} {y : MethodName} {wds wds' : List Cond} {rm : Room} {D : va_G} {cl : List vw_C} {tys : List (ClassId × FieldType)} {av : List Value} {wc w1 : va_W} {cc : ByteArray} {maxL : Nat} {r : Int64}
    (hy : plainName y.cls = true) (hw : wds = Cond.code y cc maxL (some .long) :: wds') (hm : (lg_sl av).length ≤ maxL)
    (body : ∀ κ : Ku, Cx κ l rm cc maxL wds' y.cls D cl tys → (∀ (pc : Nat) (lv : List (Nat × Value)), decode cc pc = .ok (.lreturn, 1) → V κ rm.cells rm.slots w1 pc lv [.long r]) → V κ 0 0 wc 0 (lv_args 0 av) []) : CL l y wds rm D cl tys av wc r w1 := by
  intro sz
  refine Met.ofW (cc := cc) (maxL := maxL) (ret := (some .long)) hy hw ?_
  intro p e s m args below meth c s₁ B hml hv
  obtain ⟨rfl, hsz, hP, hK, hNw, hD0⟩ := hv
  have hx := B.exec
  have hb := B.bytes
  have hr := B.returns
  have hts := atoms_spec (ws := wds) B.pre
  have hown : s.vm.findClass y.cls = some m.cls := findClass_of_methodNamed B.named
  have hlocks := B.notSynchronized
  subst hsz
  have hD := hD0.self (sz := s.heap.size)
  generalize hAe : va_A wc s.heap.size = A at hD ⊢
  have hA : ∀ q : Nat, s.heap.size ≤ q → A q := fun q h => by rw [← hAe]; exact Or.inr h
  have hS : va_S A s.heap s.heap [] := va_S.rf
  have hl := lv_entry av (n := maxL) hm
  rw [lg_entry_eq]
  generalize (lg_sl av ++ List.replicate (maxL - (lg_sl av).length) Slot.unset).toArray = ls at hl ⊢
  exact body (p, l, e, (headSpec wds rm).room, s, m, av.toArray, below, meth, c, _, D, cl, A, maxL) ⟨rfl, rfl, rfl, rfl, rfl, hx, hb, hml, hown, fun w h => hts w (by rw [hw]; exact List.mem_cons_of_mem _ h), hK, hNw, hA⟩
    (fun pc lv hd H locs ls hP hD hS hL => W.lret (v := r) hx hb hr (fun t ht hW => ⟨⟨r, (), rfl, rfl, by show va_P D cl w1 t.heap; rw [ht]; exact hP⟩, hS.F ht⟩) hS.2.2 hd) s.heap [] ls hP hD hS hl
theorem CV.ofV {l : Launch} {y : MethodName} {wds wds' : List Cond} {rm : Room} {D : va_G} {cl : List vw_C} {tys : List (ClassId × FieldType)} {av : List Value} {wc w1 : va_W} {cc : ByteArray} {maxL : Nat} 
    (hy : plainName y.cls = true) (hw : wds = Cond.code y cc maxL none :: wds') (hm : (lg_sl av).length ≤ maxL)
    (body : ∀ κ : Ku, Cx κ l rm cc maxL wds' y.cls D cl tys → (∀ (pc : Nat) (lv : List (Nat × Value)), decode cc pc = .ok (.return_, 1) → V κ rm.cells rm.slots w1 pc lv []) → V κ 0 0 wc 0 (lv_args 0 av) []) : CV l y wds rm D cl tys av wc w1 := by
  intro sz
  refine Met.ofW (cc := cc) (maxL := maxL) (ret := none) hy hw ?_
  intro p e s m args below meth c s₁ B hml hv
  obtain ⟨rfl, hsz, hP, hK, hNw, hD0⟩ := hv
  have hx := B.exec
  have hb := B.bytes
  have hr := B.returns
  have hts := atoms_spec (ws := wds) B.pre
  have hown : s.vm.findClass y.cls = some m.cls := findClass_of_methodNamed B.named
  have hlocks := B.notSynchronized
  subst hsz
  have hD := hD0.self (sz := s.heap.size)
  generalize hAe : va_A wc s.heap.size = A at hD ⊢
  have hA : ∀ q : Nat, s.heap.size ≤ q → A q := fun q h => by rw [← hAe]; exact Or.inr h
  have hS : va_S A s.heap s.heap [] := va_S.rf
  have hl := lv_entry av (n := maxL) hm
  rw [lg_entry_eq]
  generalize (lg_sl av ++ List.replicate (maxL - (lg_sl av).length) Slot.unset).toArray = ls at hl ⊢
  exact body (p, l, e, (headSpec wds rm).room, s, m, av.toArray, below, meth, c, _, D, cl, A, maxL) ⟨rfl, rfl, rfl, rfl, rfl, hx, hb, hml, hown, fun w h => hts w (by rw [hw]; exact List.mem_cons_of_mem _ h), hK, hNw, hA⟩
    (fun pc lv hd H locs ls hP hD hS hL => W.vret hx hb hr (fun t ht hW => ⟨⟨(), rfl, trivial, by show va_P D cl w1 t.heap; rw [ht]; exact hP⟩, hS.F ht⟩) hS.2.2 hd) s.heap [] ls hP hD hS hl
section VC
variable {κ : Ku} {lc : Launch} {rm : Room} {cc : ByteArray} {nL : Nat} {Ts : List Cond} {own : String} {D : va_G} {cl : List vw_C} {tys : List (ClassId × FieldType)}
variable {cells slots : Nat} {ws : va_W} {pc : Nat} {lv : List (Nat × Value)} {st : List Value}
variable {y : MethodName} {wds wds' : List Cond} {rmC : Room} {bytes : ByteArray} {maxL index : Nat} {C host : String} {b ci : Nat} {As rest : List Value} {wc w1 : va_W} {T : u_T} {N : Nat} {fs : List Value}
theorem V_callVi (x : Cx κ lc rm cc nL Ts own D cl tys) {r : Int32} {ret : Option FieldType} (hM : CI lc y wds rmC D cl tys (.ref b :: As) wc r w1) (n : Nat) (g : GoodIn Ts (wsV own index C y wds)) (hw : wds = Cond.code y bytes maxL ret :: wds') (hd : y.cls = C ∧ y.cls ≠ "java/lang/invoke/MethodHandle" ∧ y.cls ≠ "java/lang/invoke/VarHandle" ∧ (parseMethodDescriptor y.desc).map (fun d => d.parameters.length) = some n)
    (hR : rmC.frames + 1 ≤ rm.frames ∧ 8 + (maxL + 11) + rmC.locals ≤ rm.locals) (hz : rmC.cells = 0 ∧ rmC.slots = 0) (q0 : Nat) (he : ws[q0]? = some (b, .inr (ci, fs))) (hc : cl[ci]? = some (C, T, N)) (hn : As.length = n) (isC : List Nat) (ws' : va_W) (hC : isC.map (fun i => ws[i]?) = wc.map some) (hnd : va_nd isC = true) (ads : List Nat) (hf1 : w1.map Prod.fst = ads) (hf2 : wc.map Prod.fst = ads) (ps : List (Option Nat)) (hck : wChk isC ps = true) (hw' : wPut ws ps w1 = ws')
    (hst : st = As.reverse ++ .ref b :: rest) (hro : (rest.map fun v => v.category).sum ≤ 8) (hdg : decode cc pc = .ok (.invokevirtual index, 3)) (hcs : cells ≤ rm.cells ∧ slots ≤ rm.slots)
    (k : V κ cells slots ws' (pc + 3) lv (.int r :: rest)) : V κ cells slots ws pc lv st := by
  obtain ⟨p, l, e, R, s, m, args, below, meth, c, Q, D', cl', A, nL'⟩ := κ
  obtain ⟨rfl, rfl, rfl, rfl, rfl, hx, hb, hml, hown, hts, hK, hNw, hA⟩ := x
  subst hw'
  subst hst
  intro H locs ls hP hD hS hL
  have hPc : va_P D' cl' wc H := by
    intro k q hq
    have h1 : (isC.map (fun i => ws[i]?))[k]? = some (some q) := by rw [hC, List.getElem?_map, hq]; rfl
    rw [List.getElem?_map] at h1
    cases hi : isC[k]? with
    | none => rw [hi] at h1; cases h1
    | some i => rw [hi] at h1; exact hP i q (Option.some.inj h1)
  have hDc := hD.sub (ws' := wc) isC hnd hC
  have hFc := va_free (wc := wc) hD hS hA isC hC
  obtain ⟨hz1, hz2⟩ := hz
  have hM1 := hM H.size
  rw [hz1, hz2] at hM1
  refine va_calli (va_runV (As := As) (rest := rest) (mc := 0) (ms := 0) ⟨hx, hb, hml, hown, hts⟩ hM1 (cwV n hts g hw hz1 hz2 hd hR) ⟨fun a U g mk q => by obtain ⟨q0, q1, qP, qK, qN, qD⟩ := q; exact ⟨q0, q1, qP, va_K.moved (u := U) (U := U.calling g mk a) (Vm.Alike.refl U.vm) qK, va_Nw.same rfl (rfl : U.vm = (U.calling g mk a).vm) qN, qD⟩, va_recv hK hP hc he, fun U hU hW => ⟨rfl, by rw [hU], by rw [hU]; exact hPc, va_K.moved hW.alike hK, va_Nw.warmM hW hNw, hDc.weaken (fun _ _ _ _ => trivial)⟩⟩ rfl hn hL.1 rfl (lv_room hro) hdg ⟨hcs.1, hcs.2⟩) hS (fun q _ h => hFc q h) hFc (fun r0 u t H1 locs1 ht hvm hw0 hB hz1 hk1 hS1 => ?_)
  rw [ht] at hB
  subst hw0
  obtain ⟨hP2, hD2⟩ := vj2 hP hD isC hC (hf1.trans hf2.symm) hk1 hB ps hck
  exact k H1 locs1 ls hP2 hD2 hS1 hL
theorem V_callSi (x : Cx κ lc rm cc nL Ts own D cl tys) {r : Int32} {ret : Option FieldType} (hM : CI lc y wds rmC D cl tys As wc r w1) (n : Nat) (g : GoodIn Ts (va_wsS own index y wds)) (hw : wds = Cond.code y bytes maxL ret :: wds') (hd : y.cls ≠ "java/lang/invoke/MethodHandle" ∧ y.cls ≠ "java/lang/invoke/VarHandle" ∧ (parseMethodDescriptor y.desc).map (fun d => d.parameters.length) = some n)
    (hR : rmC.frames + 1 ≤ rm.frames ∧ 8 + (maxL + 11) + rmC.locals ≤ rm.locals) (hz : rmC.cells = 0 ∧ rmC.slots = 0)   (hn : As.length = n) (isC : List Nat) (ws' : va_W) (hC : isC.map (fun i => ws[i]?) = wc.map some) (hnd : va_nd isC = true) (ads : List Nat) (hf1 : w1.map Prod.fst = ads) (hf2 : wc.map Prod.fst = ads) (ps : List (Option Nat)) (hck : wChk isC ps = true) (hw' : wPut ws ps w1 = ws')
    (hst : st = As.reverse ++ rest) (hro : (rest.map fun v => v.category).sum ≤ 8) (hdg : decode cc pc = .ok (.invokestatic index, 3)) (hcs : cells ≤ rm.cells ∧ slots ≤ rm.slots)
    (k : V κ cells slots ws' (pc + 3) lv (.int r :: rest)) : V κ cells slots ws pc lv st := by
  obtain ⟨p, l, e, R, s, m, args, below, meth, c, Q, D', cl', A, nL'⟩ := κ
  obtain ⟨rfl, rfl, rfl, rfl, rfl, hx, hb, hml, hown, hts, hK, hNw, hA⟩ := x
  subst hw'
  subst hst
  intro H locs ls hP hD hS hL
  have hPc : va_P D' cl' wc H := by
    intro k q hq
    have h1 : (isC.map (fun i => ws[i]?))[k]? = some (some q) := by rw [hC, List.getElem?_map, hq]; rfl
    rw [List.getElem?_map] at h1
    cases hi : isC[k]? with
    | none => rw [hi] at h1; cases h1
    | some i => rw [hi] at h1; exact hP i q (Option.some.inj h1)
  have hDc := hD.sub (ws' := wc) isC hnd hC
  have hFc := va_free (wc := wc) hD hS hA isC hC
  obtain ⟨hz1, hz2⟩ := hz
  have hM1 := hM H.size
  rw [hz1, hz2] at hM1
  refine va_calli (va_runS (As := As) (rest := rest) (mc := 0) (ms := 0) ⟨hx, hb, hml, hown, hts⟩ hM1 (va_cwS n hts g hw hz1 hz2 hd hR) ⟨fun a U g mk q => by obtain ⟨q0, q1, qP, qK, qN, qD⟩ := q; exact ⟨q0, q1, qP, va_K.moved (u := U) (U := U.calling g mk a) (Vm.Alike.refl U.vm) qK, va_Nw.same rfl (rfl : U.vm = (U.calling g mk a).vm) qN, qD⟩, fun U hU hW => ⟨rfl, by rw [hU], by rw [hU]; exact hPc, va_K.moved hW.alike hK, va_Nw.warmM hW hNw, hDc.weaken (fun _ _ _ _ => trivial)⟩⟩ rfl hn hL.1 rfl (lv_room hro) hdg ⟨hcs.1, hcs.2⟩) hS (fun q _ h => hFc q h) hFc (fun r0 u t H1 locs1 ht hvm hw0 hB hz1 hk1 hS1 => ?_)
  rw [ht] at hB
  subst hw0
  obtain ⟨hP2, hD2⟩ := vj2 hP hD isC hC (hf1.trans hf2.symm) hk1 hB ps hck
  exact k H1 locs1 ls hP2 hD2 hS1 hL
theorem V_callVNi (x : Cx κ lc rm cc nL Ts own D cl tys) {r : Int32} {ret : Option FieldType} (hM : CI lc y wds rmC D cl tys (.ref b :: As) wc r w1) (n : Nat) (g : GoodIn Ts wds) (hlk : Cond.methodLinkNest own index y host = nwT) (hini : Cond.initialized y.cls ∈ Ts) (hins : Cond.instanceMethod y ∈ Ts) (hsel : Cond.selects C y y ∈ Ts) (hw : wds = Cond.code y bytes maxL ret :: wds') (hd : y.cls ≠ "java/lang/invoke/MethodHandle" ∧ y.cls ≠ "java/lang/invoke/VarHandle" ∧ (parseMethodDescriptor y.desc).map (fun d => d.parameters.length) = some n)
    (hR : rmC.frames + 1 ≤ rm.frames ∧ 8 + (maxL + 11) + rmC.locals ≤ rm.locals) (hz : rmC.cells = 0 ∧ rmC.slots = 0) (q0 : Nat) (he : ws[q0]? = some (b, .inr (ci, fs))) (hc : cl[ci]? = some (C, T, N)) (hn : As.length = n) (isC : List Nat) (ws' : va_W) (hC : isC.map (fun i => ws[i]?) = wc.map some) (hnd : va_nd isC = true) (ads : List Nat) (hf1 : w1.map Prod.fst = ads) (hf2 : wc.map Prod.fst = ads) (ps : List (Option Nat)) (hck : wChk isC ps = true) (hw' : wPut ws ps w1 = ws')
    (hst : st = As.reverse ++ .ref b :: rest) (hro : (rest.map fun v => v.category).sum ≤ 8) (hdg : decode cc pc = .ok (.invokevirtual index, 3)) (hcs : cells ≤ rm.cells ∧ slots ≤ rm.slots)
    (k : V κ cells slots ws' (pc + 3) lv (.int r :: rest)) : V κ cells slots ws pc lv st := by
  obtain ⟨p, l, e, R, s, m, args, below, meth, c, Q, D', cl', A, nL'⟩ := κ
  obtain ⟨rfl, rfl, rfl, rfl, rfl, hx, hb, hml, hown, hts, hK, hNw, hA⟩ := x
  subst hw'
  subst hst
  intro H locs ls hP hD hS hL
  have hPc : va_P D' cl' wc H := by
    intro k q hq
    have h1 : (isC.map (fun i => ws[i]?))[k]? = some (some q) := by rw [hC, List.getElem?_map, hq]; rfl
    rw [List.getElem?_map] at h1
    cases hi : isC[k]? with
    | none => rw [hi] at h1; cases h1
    | some i => rw [hi] at h1; exact hP i q (Option.some.inj h1)
  have hDc := hD.sub (ws' := wc) isC hnd hC
  have hFc := va_free (wc := wc) hD hS hA isC hC
  obtain ⟨hz1, hz2⟩ := hz
  have hM1 := hM H.size
  rw [hz1, hz2] at hM1
  refine va_calli (va_runVN (As := As) (rest := rest) (mc := 0) (ms := 0) ⟨hx, hb, hml, hown, hts⟩ hM1 ⟨va_cnB n hts g hw hz1 hz2 (hlk ▸ hNw) (hts _ hini) hd hR, hts _ hins, hts _ hsel⟩ ⟨fun a U g mk q => by obtain ⟨q0, q1, qP, qK, qN, qD⟩ := q; exact ⟨q0, q1, qP, va_K.moved (u := U) (U := U.calling g mk a) (Vm.Alike.refl U.vm) qK, va_Nw.same rfl (rfl : U.vm = (U.calling g mk a).vm) qN, qD⟩, va_recv hK hP hc he, fun U hU hW => ⟨rfl, by rw [hU], by rw [hU]; exact hPc, va_K.moved hW.alike hK, va_Nw.warmM hW hNw, hDc.weaken (fun _ _ _ _ => trivial)⟩⟩ rfl hn hL.1 rfl (lv_room hro) hdg ⟨hcs.1, hcs.2⟩) hS (fun q _ h => hFc q h) hFc (fun r0 u t H1 locs1 ht hvm hw0 hB hz1 hk1 hS1 => ?_)
  rw [ht] at hB
  subst hw0
  obtain ⟨hP2, hD2⟩ := vj2 hP hD isC hC (hf1.trans hf2.symm) hk1 hB ps hck
  exact k H1 locs1 ls hP2 hD2 hS1 hL
theorem V_callSNi (x : Cx κ lc rm cc nL Ts own D cl tys) {r : Int32} {ret : Option FieldType} (hM : CI lc y wds rmC D cl tys As wc r w1) (n : Nat) (g : GoodIn Ts wds) (hlk : Cond.methodLinkNest own index y host = nwT) (hini : Cond.initialized y.cls ∈ Ts) (hsta : Cond.static y ∈ Ts) (hw : wds = Cond.code y bytes maxL ret :: wds') (hd : y.cls ≠ "java/lang/invoke/MethodHandle" ∧ y.cls ≠ "java/lang/invoke/VarHandle" ∧ (parseMethodDescriptor y.desc).map (fun d => d.parameters.length) = some n)
    (hR : rmC.frames + 1 ≤ rm.frames ∧ 8 + (maxL + 11) + rmC.locals ≤ rm.locals) (hz : rmC.cells = 0 ∧ rmC.slots = 0)   (hn : As.length = n) (isC : List Nat) (ws' : va_W) (hC : isC.map (fun i => ws[i]?) = wc.map some) (hnd : va_nd isC = true) (ads : List Nat) (hf1 : w1.map Prod.fst = ads) (hf2 : wc.map Prod.fst = ads) (ps : List (Option Nat)) (hck : wChk isC ps = true) (hw' : wPut ws ps w1 = ws')
    (hst : st = As.reverse ++ rest) (hro : (rest.map fun v => v.category).sum ≤ 8) (hdg : decode cc pc = .ok (.invokestatic index, 3)) (hcs : cells ≤ rm.cells ∧ slots ≤ rm.slots)
    (k : V κ cells slots ws' (pc + 3) lv (.int r :: rest)) : V κ cells slots ws pc lv st := by
  obtain ⟨p, l, e, R, s, m, args, below, meth, c, Q, D', cl', A, nL'⟩ := κ
  obtain ⟨rfl, rfl, rfl, rfl, rfl, hx, hb, hml, hown, hts, hK, hNw, hA⟩ := x
  subst hw'
  subst hst
  intro H locs ls hP hD hS hL
  have hPc : va_P D' cl' wc H := by
    intro k q hq
    have h1 : (isC.map (fun i => ws[i]?))[k]? = some (some q) := by rw [hC, List.getElem?_map, hq]; rfl
    rw [List.getElem?_map] at h1
    cases hi : isC[k]? with
    | none => rw [hi] at h1; cases h1
    | some i => rw [hi] at h1; exact hP i q (Option.some.inj h1)
  have hDc := hD.sub (ws' := wc) isC hnd hC
  have hFc := va_free (wc := wc) hD hS hA isC hC
  obtain ⟨hz1, hz2⟩ := hz
  have hM1 := hM H.size
  rw [hz1, hz2] at hM1
  refine va_calli (va_runSN (As := As) (rest := rest) (mc := 0) (ms := 0) ⟨hx, hb, hml, hown, hts⟩ hM1 ⟨va_cnB n hts g hw hz1 hz2 (hlk ▸ hNw) (hts _ hini) hd hR, hts _ hsta, trivial⟩ ⟨fun a U g mk q => by obtain ⟨q0, q1, qP, qK, qN, qD⟩ := q; exact ⟨q0, q1, qP, va_K.moved (u := U) (U := U.calling g mk a) (Vm.Alike.refl U.vm) qK, va_Nw.same rfl (rfl : U.vm = (U.calling g mk a).vm) qN, qD⟩, fun U hU hW => ⟨rfl, by rw [hU], by rw [hU]; exact hPc, va_K.moved hW.alike hK, va_Nw.warmM hW hNw, hDc.weaken (fun _ _ _ _ => trivial)⟩⟩ rfl hn hL.1 rfl (lv_room hro) hdg ⟨hcs.1, hcs.2⟩) hS (fun q _ h => hFc q h) hFc (fun r0 u t H1 locs1 ht hvm hw0 hB hz1 hk1 hS1 => ?_)
  rw [ht] at hB
  subst hw0
  obtain ⟨hP2, hD2⟩ := vj2 hP hD isC hC (hf1.trans hf2.symm) hk1 hB ps hck
  exact k H1 locs1 ls hP2 hD2 hS1 hL
theorem V_callVl (x : Cx κ lc rm cc nL Ts own D cl tys) {r : Int64} {ret : Option FieldType} (hM : CL lc y wds rmC D cl tys (.ref b :: As) wc r w1) (n : Nat) (g : GoodIn Ts (wsV own index C y wds)) (hw : wds = Cond.code y bytes maxL ret :: wds') (hd : y.cls = C ∧ y.cls ≠ "java/lang/invoke/MethodHandle" ∧ y.cls ≠ "java/lang/invoke/VarHandle" ∧ (parseMethodDescriptor y.desc).map (fun d => d.parameters.length) = some n)
    (hR : rmC.frames + 1 ≤ rm.frames ∧ 8 + (maxL + 11) + rmC.locals ≤ rm.locals) (hz : rmC.cells = 0 ∧ rmC.slots = 0) (q0 : Nat) (he : ws[q0]? = some (b, .inr (ci, fs))) (hc : cl[ci]? = some (C, T, N)) (hn : As.length = n) (isC : List Nat) (ws' : va_W) (hC : isC.map (fun i => ws[i]?) = wc.map some) (hnd : va_nd isC = true) (ads : List Nat) (hf1 : w1.map Prod.fst = ads) (hf2 : wc.map Prod.fst = ads) (ps : List (Option Nat)) (hck : wChk isC ps = true) (hw' : wPut ws ps w1 = ws')
    (hst : st = As.reverse ++ .ref b :: rest) (hro : (rest.map fun v => v.category).sum ≤ 8) (hdg : decode cc pc = .ok (.invokevirtual index, 3)) (hcs : cells ≤ rm.cells ∧ slots ≤ rm.slots)
    (k : V κ cells slots ws' (pc + 3) lv (.long r :: rest)) : V κ cells slots ws pc lv st := by
  obtain ⟨p, l, e, R, s, m, args, below, meth, c, Q, D', cl', A, nL'⟩ := κ
  obtain ⟨rfl, rfl, rfl, rfl, rfl, hx, hb, hml, hown, hts, hK, hNw, hA⟩ := x
  subst hw'
  subst hst
  intro H locs ls hP hD hS hL
  have hPc : va_P D' cl' wc H := by
    intro k q hq
    have h1 : (isC.map (fun i => ws[i]?))[k]? = some (some q) := by rw [hC, List.getElem?_map, hq]; rfl
    rw [List.getElem?_map] at h1
    cases hi : isC[k]? with
    | none => rw [hi] at h1; cases h1
    | some i => rw [hi] at h1; exact hP i q (Option.some.inj h1)
  have hDc := hD.sub (ws' := wc) isC hnd hC
  have hFc := va_free (wc := wc) hD hS hA isC hC
  obtain ⟨hz1, hz2⟩ := hz
  have hM1 := hM H.size
  rw [hz1, hz2] at hM1
  refine va_calll (va_runV (As := As) (rest := rest) (mc := 0) (ms := 0) ⟨hx, hb, hml, hown, hts⟩ hM1 (cwV n hts g hw hz1 hz2 hd hR) ⟨fun a U g mk q => by obtain ⟨q0, q1, qP, qK, qN, qD⟩ := q; exact ⟨q0, q1, qP, va_K.moved (u := U) (U := U.calling g mk a) (Vm.Alike.refl U.vm) qK, va_Nw.same rfl (rfl : U.vm = (U.calling g mk a).vm) qN, qD⟩, va_recv hK hP hc he, fun U hU hW => ⟨rfl, by rw [hU], by rw [hU]; exact hPc, va_K.moved hW.alike hK, va_Nw.warmM hW hNw, hDc.weaken (fun _ _ _ _ => trivial)⟩⟩ rfl hn hL.1 rfl (lv_room hro) hdg ⟨hcs.1, hcs.2⟩) hS (fun q _ h => hFc q h) hFc (fun r0 u t H1 locs1 ht hvm hw0 hB hz1 hk1 hS1 => ?_)
  rw [ht] at hB
  subst hw0
  obtain ⟨hP2, hD2⟩ := vj2 hP hD isC hC (hf1.trans hf2.symm) hk1 hB ps hck
  exact k H1 locs1 ls hP2 hD2 hS1 hL
theorem V_callSl (x : Cx κ lc rm cc nL Ts own D cl tys) {r : Int64} {ret : Option FieldType} (hM : CL lc y wds rmC D cl tys As wc r w1) (n : Nat) (g : GoodIn Ts (va_wsS own index y wds)) (hw : wds = Cond.code y bytes maxL ret :: wds') (hd : y.cls ≠ "java/lang/invoke/MethodHandle" ∧ y.cls ≠ "java/lang/invoke/VarHandle" ∧ (parseMethodDescriptor y.desc).map (fun d => d.parameters.length) = some n)
    (hR : rmC.frames + 1 ≤ rm.frames ∧ 8 + (maxL + 11) + rmC.locals ≤ rm.locals) (hz : rmC.cells = 0 ∧ rmC.slots = 0)   (hn : As.length = n) (isC : List Nat) (ws' : va_W) (hC : isC.map (fun i => ws[i]?) = wc.map some) (hnd : va_nd isC = true) (ads : List Nat) (hf1 : w1.map Prod.fst = ads) (hf2 : wc.map Prod.fst = ads) (ps : List (Option Nat)) (hck : wChk isC ps = true) (hw' : wPut ws ps w1 = ws')
    (hst : st = As.reverse ++ rest) (hro : (rest.map fun v => v.category).sum ≤ 8) (hdg : decode cc pc = .ok (.invokestatic index, 3)) (hcs : cells ≤ rm.cells ∧ slots ≤ rm.slots)
    (k : V κ cells slots ws' (pc + 3) lv (.long r :: rest)) : V κ cells slots ws pc lv st := by
  obtain ⟨p, l, e, R, s, m, args, below, meth, c, Q, D', cl', A, nL'⟩ := κ
  obtain ⟨rfl, rfl, rfl, rfl, rfl, hx, hb, hml, hown, hts, hK, hNw, hA⟩ := x
  subst hw'
  subst hst
  intro H locs ls hP hD hS hL
  have hPc : va_P D' cl' wc H := by
    intro k q hq
    have h1 : (isC.map (fun i => ws[i]?))[k]? = some (some q) := by rw [hC, List.getElem?_map, hq]; rfl
    rw [List.getElem?_map] at h1
    cases hi : isC[k]? with
    | none => rw [hi] at h1; cases h1
    | some i => rw [hi] at h1; exact hP i q (Option.some.inj h1)
  have hDc := hD.sub (ws' := wc) isC hnd hC
  have hFc := va_free (wc := wc) hD hS hA isC hC
  obtain ⟨hz1, hz2⟩ := hz
  have hM1 := hM H.size
  rw [hz1, hz2] at hM1
  refine va_calll (va_runS (As := As) (rest := rest) (mc := 0) (ms := 0) ⟨hx, hb, hml, hown, hts⟩ hM1 (va_cwS n hts g hw hz1 hz2 hd hR) ⟨fun a U g mk q => by obtain ⟨q0, q1, qP, qK, qN, qD⟩ := q; exact ⟨q0, q1, qP, va_K.moved (u := U) (U := U.calling g mk a) (Vm.Alike.refl U.vm) qK, va_Nw.same rfl (rfl : U.vm = (U.calling g mk a).vm) qN, qD⟩, fun U hU hW => ⟨rfl, by rw [hU], by rw [hU]; exact hPc, va_K.moved hW.alike hK, va_Nw.warmM hW hNw, hDc.weaken (fun _ _ _ _ => trivial)⟩⟩ rfl hn hL.1 rfl (lv_room hro) hdg ⟨hcs.1, hcs.2⟩) hS (fun q _ h => hFc q h) hFc (fun r0 u t H1 locs1 ht hvm hw0 hB hz1 hk1 hS1 => ?_)
  rw [ht] at hB
  subst hw0
  obtain ⟨hP2, hD2⟩ := vj2 hP hD isC hC (hf1.trans hf2.symm) hk1 hB ps hck
  exact k H1 locs1 ls hP2 hD2 hS1 hL
theorem V_callVNl (x : Cx κ lc rm cc nL Ts own D cl tys) {r : Int64} {ret : Option FieldType} (hM : CL lc y wds rmC D cl tys (.ref b :: As) wc r w1) (n : Nat) (g : GoodIn Ts wds) (hlk : Cond.methodLinkNest own index y host = nwT) (hini : Cond.initialized y.cls ∈ Ts) (hins : Cond.instanceMethod y ∈ Ts) (hsel : Cond.selects C y y ∈ Ts) (hw : wds = Cond.code y bytes maxL ret :: wds') (hd : y.cls ≠ "java/lang/invoke/MethodHandle" ∧ y.cls ≠ "java/lang/invoke/VarHandle" ∧ (parseMethodDescriptor y.desc).map (fun d => d.parameters.length) = some n)
    (hR : rmC.frames + 1 ≤ rm.frames ∧ 8 + (maxL + 11) + rmC.locals ≤ rm.locals) (hz : rmC.cells = 0 ∧ rmC.slots = 0) (q0 : Nat) (he : ws[q0]? = some (b, .inr (ci, fs))) (hc : cl[ci]? = some (C, T, N)) (hn : As.length = n) (isC : List Nat) (ws' : va_W) (hC : isC.map (fun i => ws[i]?) = wc.map some) (hnd : va_nd isC = true) (ads : List Nat) (hf1 : w1.map Prod.fst = ads) (hf2 : wc.map Prod.fst = ads) (ps : List (Option Nat)) (hck : wChk isC ps = true) (hw' : wPut ws ps w1 = ws')
    (hst : st = As.reverse ++ .ref b :: rest) (hro : (rest.map fun v => v.category).sum ≤ 8) (hdg : decode cc pc = .ok (.invokevirtual index, 3)) (hcs : cells ≤ rm.cells ∧ slots ≤ rm.slots)
    (k : V κ cells slots ws' (pc + 3) lv (.long r :: rest)) : V κ cells slots ws pc lv st := by
  obtain ⟨p, l, e, R, s, m, args, below, meth, c, Q, D', cl', A, nL'⟩ := κ
  obtain ⟨rfl, rfl, rfl, rfl, rfl, hx, hb, hml, hown, hts, hK, hNw, hA⟩ := x
  subst hw'
  subst hst
  intro H locs ls hP hD hS hL
  have hPc : va_P D' cl' wc H := by
    intro k q hq
    have h1 : (isC.map (fun i => ws[i]?))[k]? = some (some q) := by rw [hC, List.getElem?_map, hq]; rfl
    rw [List.getElem?_map] at h1
    cases hi : isC[k]? with
    | none => rw [hi] at h1; cases h1
    | some i => rw [hi] at h1; exact hP i q (Option.some.inj h1)
  have hDc := hD.sub (ws' := wc) isC hnd hC
  have hFc := va_free (wc := wc) hD hS hA isC hC
  obtain ⟨hz1, hz2⟩ := hz
  have hM1 := hM H.size
  rw [hz1, hz2] at hM1
  refine va_calll (va_runVN (As := As) (rest := rest) (mc := 0) (ms := 0) ⟨hx, hb, hml, hown, hts⟩ hM1 ⟨va_cnB n hts g hw hz1 hz2 (hlk ▸ hNw) (hts _ hini) hd hR, hts _ hins, hts _ hsel⟩ ⟨fun a U g mk q => by obtain ⟨q0, q1, qP, qK, qN, qD⟩ := q; exact ⟨q0, q1, qP, va_K.moved (u := U) (U := U.calling g mk a) (Vm.Alike.refl U.vm) qK, va_Nw.same rfl (rfl : U.vm = (U.calling g mk a).vm) qN, qD⟩, va_recv hK hP hc he, fun U hU hW => ⟨rfl, by rw [hU], by rw [hU]; exact hPc, va_K.moved hW.alike hK, va_Nw.warmM hW hNw, hDc.weaken (fun _ _ _ _ => trivial)⟩⟩ rfl hn hL.1 rfl (lv_room hro) hdg ⟨hcs.1, hcs.2⟩) hS (fun q _ h => hFc q h) hFc (fun r0 u t H1 locs1 ht hvm hw0 hB hz1 hk1 hS1 => ?_)
  rw [ht] at hB
  subst hw0
  obtain ⟨hP2, hD2⟩ := vj2 hP hD isC hC (hf1.trans hf2.symm) hk1 hB ps hck
  exact k H1 locs1 ls hP2 hD2 hS1 hL
theorem V_callSNl (x : Cx κ lc rm cc nL Ts own D cl tys) {r : Int64} {ret : Option FieldType} (hM : CL lc y wds rmC D cl tys As wc r w1) (n : Nat) (g : GoodIn Ts wds) (hlk : Cond.methodLinkNest own index y host = nwT) (hini : Cond.initialized y.cls ∈ Ts) (hsta : Cond.static y ∈ Ts) (hw : wds = Cond.code y bytes maxL ret :: wds') (hd : y.cls ≠ "java/lang/invoke/MethodHandle" ∧ y.cls ≠ "java/lang/invoke/VarHandle" ∧ (parseMethodDescriptor y.desc).map (fun d => d.parameters.length) = some n)
    (hR : rmC.frames + 1 ≤ rm.frames ∧ 8 + (maxL + 11) + rmC.locals ≤ rm.locals) (hz : rmC.cells = 0 ∧ rmC.slots = 0)   (hn : As.length = n) (isC : List Nat) (ws' : va_W) (hC : isC.map (fun i => ws[i]?) = wc.map some) (hnd : va_nd isC = true) (ads : List Nat) (hf1 : w1.map Prod.fst = ads) (hf2 : wc.map Prod.fst = ads) (ps : List (Option Nat)) (hck : wChk isC ps = true) (hw' : wPut ws ps w1 = ws')
    (hst : st = As.reverse ++ rest) (hro : (rest.map fun v => v.category).sum ≤ 8) (hdg : decode cc pc = .ok (.invokestatic index, 3)) (hcs : cells ≤ rm.cells ∧ slots ≤ rm.slots)
    (k : V κ cells slots ws' (pc + 3) lv (.long r :: rest)) : V κ cells slots ws pc lv st := by
  obtain ⟨p, l, e, R, s, m, args, below, meth, c, Q, D', cl', A, nL'⟩ := κ
  obtain ⟨rfl, rfl, rfl, rfl, rfl, hx, hb, hml, hown, hts, hK, hNw, hA⟩ := x
  subst hw'
  subst hst
  intro H locs ls hP hD hS hL
  have hPc : va_P D' cl' wc H := by
    intro k q hq
    have h1 : (isC.map (fun i => ws[i]?))[k]? = some (some q) := by rw [hC, List.getElem?_map, hq]; rfl
    rw [List.getElem?_map] at h1
    cases hi : isC[k]? with
    | none => rw [hi] at h1; cases h1
    | some i => rw [hi] at h1; exact hP i q (Option.some.inj h1)
  have hDc := hD.sub (ws' := wc) isC hnd hC
  have hFc := va_free (wc := wc) hD hS hA isC hC
  obtain ⟨hz1, hz2⟩ := hz
  have hM1 := hM H.size
  rw [hz1, hz2] at hM1
  refine va_calll (va_runSN (As := As) (rest := rest) (mc := 0) (ms := 0) ⟨hx, hb, hml, hown, hts⟩ hM1 ⟨va_cnB n hts g hw hz1 hz2 (hlk ▸ hNw) (hts _ hini) hd hR, hts _ hsta, trivial⟩ ⟨fun a U g mk q => by obtain ⟨q0, q1, qP, qK, qN, qD⟩ := q; exact ⟨q0, q1, qP, va_K.moved (u := U) (U := U.calling g mk a) (Vm.Alike.refl U.vm) qK, va_Nw.same rfl (rfl : U.vm = (U.calling g mk a).vm) qN, qD⟩, fun U hU hW => ⟨rfl, by rw [hU], by rw [hU]; exact hPc, va_K.moved hW.alike hK, va_Nw.warmM hW hNw, hDc.weaken (fun _ _ _ _ => trivial)⟩⟩ rfl hn hL.1 rfl (lv_room hro) hdg ⟨hcs.1, hcs.2⟩) hS (fun q _ h => hFc q h) hFc (fun r0 u t H1 locs1 ht hvm hw0 hB hz1 hk1 hS1 => ?_)
  rw [ht] at hB
  subst hw0
  obtain ⟨hP2, hD2⟩ := vj2 hP hD isC hC (hf1.trans hf2.symm) hk1 hB ps hck
  exact k H1 locs1 ls hP2 hD2 hS1 hL
theorem V_callVv (x : Cx κ lc rm cc nL Ts own D cl tys)   (hM : CV lc y wds rmC D cl tys (.ref b :: As) wc w1) (n : Nat) (g : GoodIn Ts (wsV own index C y wds)) (hw : wds = Cond.code y bytes maxL none :: wds') (hd : y.cls = C ∧ y.cls ≠ "java/lang/invoke/MethodHandle" ∧ y.cls ≠ "java/lang/invoke/VarHandle" ∧ (parseMethodDescriptor y.desc).map (fun d => d.parameters.length) = some n)
    (hR : rmC.frames + 1 ≤ rm.frames ∧ 8 + (maxL + 11) + rmC.locals ≤ rm.locals) (hz : rmC.cells = 0 ∧ rmC.slots = 0) (q0 : Nat) (he : ws[q0]? = some (b, .inr (ci, fs))) (hc : cl[ci]? = some (C, T, N)) (hn : As.length = n) (isC : List Nat) (ws' : va_W) (hC : isC.map (fun i => ws[i]?) = wc.map some) (hnd : va_nd isC = true) (ads : List Nat) (hf1 : w1.map Prod.fst = ads) (hf2 : wc.map Prod.fst = ads) (ps : List (Option Nat)) (hck : wChk isC ps = true) (hw' : wPut ws ps w1 = ws')
    (hst : st = As.reverse ++ .ref b :: rest) (hro : (rest.map fun v => v.category).sum ≤ 8) (hdg : decode cc pc = .ok (.invokevirtual index, 3)) (hcs : cells ≤ rm.cells ∧ slots ≤ rm.slots)
    (k : V κ cells slots ws' (pc + 3) lv (rest)) : V κ cells slots ws pc lv st := by
  obtain ⟨p, l, e, R, s, m, args, below, meth, c, Q, D', cl', A, nL'⟩ := κ
  obtain ⟨rfl, rfl, rfl, rfl, rfl, hx, hb, hml, hown, hts, hK, hNw, hA⟩ := x
  subst hw'
  subst hst
  intro H locs ls hP hD hS hL
  have hPc : va_P D' cl' wc H := by
    intro k q hq
    have h1 : (isC.map (fun i => ws[i]?))[k]? = some (some q) := by rw [hC, List.getElem?_map, hq]; rfl
    rw [List.getElem?_map] at h1
    cases hi : isC[k]? with
    | none => rw [hi] at h1; cases h1
    | some i => rw [hi] at h1; exact hP i q (Option.some.inj h1)
  have hDc := hD.sub (ws' := wc) isC hnd hC
  have hFc := va_free (wc := wc) hD hS hA isC hC
  obtain ⟨hz1, hz2⟩ := hz
  have hM1 := hM H.size
  rw [hz1, hz2] at hM1
  refine va_callv (va_runV (As := As) (rest := rest) (mc := 0) (ms := 0) ⟨hx, hb, hml, hown, hts⟩ hM1 (cwV n hts g hw hz1 hz2 hd hR) ⟨fun a U g mk q => by obtain ⟨q0, q1, qP, qK, qN, qD⟩ := q; exact ⟨q0, q1, qP, va_K.moved (u := U) (U := U.calling g mk a) (Vm.Alike.refl U.vm) qK, va_Nw.same rfl (rfl : U.vm = (U.calling g mk a).vm) qN, qD⟩, va_recv hK hP hc he, fun U hU hW => ⟨rfl, by rw [hU], by rw [hU]; exact hPc, va_K.moved hW.alike hK, va_Nw.warmM hW hNw, hDc.weaken (fun _ _ _ _ => trivial)⟩⟩ rfl hn hL.1 rfl (lv_room hro) hdg ⟨hcs.1, hcs.2⟩) hS (fun q _ h => hFc q h) hFc (fun u t H1 locs1 ht hvm hw0 hB hz1 hk1 hS1 => ?_)
  rw [ht] at hB
  obtain ⟨hP2, hD2⟩ := vj2 hP hD isC hC (hf1.trans hf2.symm) hk1 hB ps hck
  exact k H1 locs1 ls hP2 hD2 hS1 hL
theorem V_callSv (x : Cx κ lc rm cc nL Ts own D cl tys)   (hM : CV lc y wds rmC D cl tys As wc w1) (n : Nat) (g : GoodIn Ts (va_wsS own index y wds)) (hw : wds = Cond.code y bytes maxL none :: wds') (hd : y.cls ≠ "java/lang/invoke/MethodHandle" ∧ y.cls ≠ "java/lang/invoke/VarHandle" ∧ (parseMethodDescriptor y.desc).map (fun d => d.parameters.length) = some n)
    (hR : rmC.frames + 1 ≤ rm.frames ∧ 8 + (maxL + 11) + rmC.locals ≤ rm.locals) (hz : rmC.cells = 0 ∧ rmC.slots = 0)   (hn : As.length = n) (isC : List Nat) (ws' : va_W) (hC : isC.map (fun i => ws[i]?) = wc.map some) (hnd : va_nd isC = true) (ads : List Nat) (hf1 : w1.map Prod.fst = ads) (hf2 : wc.map Prod.fst = ads) (ps : List (Option Nat)) (hck : wChk isC ps = true) (hw' : wPut ws ps w1 = ws')
    (hst : st = As.reverse ++ rest) (hro : (rest.map fun v => v.category).sum ≤ 8) (hdg : decode cc pc = .ok (.invokestatic index, 3)) (hcs : cells ≤ rm.cells ∧ slots ≤ rm.slots)
    (k : V κ cells slots ws' (pc + 3) lv (rest)) : V κ cells slots ws pc lv st := by
  obtain ⟨p, l, e, R, s, m, args, below, meth, c, Q, D', cl', A, nL'⟩ := κ
  obtain ⟨rfl, rfl, rfl, rfl, rfl, hx, hb, hml, hown, hts, hK, hNw, hA⟩ := x
  subst hw'
  subst hst
  intro H locs ls hP hD hS hL
  have hPc : va_P D' cl' wc H := by
    intro k q hq
    have h1 : (isC.map (fun i => ws[i]?))[k]? = some (some q) := by rw [hC, List.getElem?_map, hq]; rfl
    rw [List.getElem?_map] at h1
    cases hi : isC[k]? with
    | none => rw [hi] at h1; cases h1
    | some i => rw [hi] at h1; exact hP i q (Option.some.inj h1)
  have hDc := hD.sub (ws' := wc) isC hnd hC
  have hFc := va_free (wc := wc) hD hS hA isC hC
  obtain ⟨hz1, hz2⟩ := hz
  have hM1 := hM H.size
  rw [hz1, hz2] at hM1
  refine va_callv (va_runS (As := As) (rest := rest) (mc := 0) (ms := 0) ⟨hx, hb, hml, hown, hts⟩ hM1 (va_cwS n hts g hw hz1 hz2 hd hR) ⟨fun a U g mk q => by obtain ⟨q0, q1, qP, qK, qN, qD⟩ := q; exact ⟨q0, q1, qP, va_K.moved (u := U) (U := U.calling g mk a) (Vm.Alike.refl U.vm) qK, va_Nw.same rfl (rfl : U.vm = (U.calling g mk a).vm) qN, qD⟩, fun U hU hW => ⟨rfl, by rw [hU], by rw [hU]; exact hPc, va_K.moved hW.alike hK, va_Nw.warmM hW hNw, hDc.weaken (fun _ _ _ _ => trivial)⟩⟩ rfl hn hL.1 rfl (lv_room hro) hdg ⟨hcs.1, hcs.2⟩) hS (fun q _ h => hFc q h) hFc (fun u t H1 locs1 ht hvm hw0 hB hz1 hk1 hS1 => ?_)
  rw [ht] at hB
  obtain ⟨hP2, hD2⟩ := vj2 hP hD isC hC (hf1.trans hf2.symm) hk1 hB ps hck
  exact k H1 locs1 ls hP2 hD2 hS1 hL
theorem V_callVNv (x : Cx κ lc rm cc nL Ts own D cl tys)   (hM : CV lc y wds rmC D cl tys (.ref b :: As) wc w1) (n : Nat) (g : GoodIn Ts wds) (hlk : Cond.methodLinkNest own index y host = nwT) (hini : Cond.initialized y.cls ∈ Ts) (hins : Cond.instanceMethod y ∈ Ts) (hsel : Cond.selects C y y ∈ Ts) (hw : wds = Cond.code y bytes maxL none :: wds') (hd : y.cls ≠ "java/lang/invoke/MethodHandle" ∧ y.cls ≠ "java/lang/invoke/VarHandle" ∧ (parseMethodDescriptor y.desc).map (fun d => d.parameters.length) = some n)
    (hR : rmC.frames + 1 ≤ rm.frames ∧ 8 + (maxL + 11) + rmC.locals ≤ rm.locals) (hz : rmC.cells = 0 ∧ rmC.slots = 0) (q0 : Nat) (he : ws[q0]? = some (b, .inr (ci, fs))) (hc : cl[ci]? = some (C, T, N)) (hn : As.length = n) (isC : List Nat) (ws' : va_W) (hC : isC.map (fun i => ws[i]?) = wc.map some) (hnd : va_nd isC = true) (ads : List Nat) (hf1 : w1.map Prod.fst = ads) (hf2 : wc.map Prod.fst = ads) (ps : List (Option Nat)) (hck : wChk isC ps = true) (hw' : wPut ws ps w1 = ws')
    (hst : st = As.reverse ++ .ref b :: rest) (hro : (rest.map fun v => v.category).sum ≤ 8) (hdg : decode cc pc = .ok (.invokevirtual index, 3)) (hcs : cells ≤ rm.cells ∧ slots ≤ rm.slots)
    (k : V κ cells slots ws' (pc + 3) lv (rest)) : V κ cells slots ws pc lv st := by
  obtain ⟨p, l, e, R, s, m, args, below, meth, c, Q, D', cl', A, nL'⟩ := κ
  obtain ⟨rfl, rfl, rfl, rfl, rfl, hx, hb, hml, hown, hts, hK, hNw, hA⟩ := x
  subst hw'
  subst hst
  intro H locs ls hP hD hS hL
  have hPc : va_P D' cl' wc H := by
    intro k q hq
    have h1 : (isC.map (fun i => ws[i]?))[k]? = some (some q) := by rw [hC, List.getElem?_map, hq]; rfl
    rw [List.getElem?_map] at h1
    cases hi : isC[k]? with
    | none => rw [hi] at h1; cases h1
    | some i => rw [hi] at h1; exact hP i q (Option.some.inj h1)
  have hDc := hD.sub (ws' := wc) isC hnd hC
  have hFc := va_free (wc := wc) hD hS hA isC hC
  obtain ⟨hz1, hz2⟩ := hz
  have hM1 := hM H.size
  rw [hz1, hz2] at hM1
  refine va_callv (va_runVN (As := As) (rest := rest) (mc := 0) (ms := 0) ⟨hx, hb, hml, hown, hts⟩ hM1 ⟨va_cnB n hts g hw hz1 hz2 (hlk ▸ hNw) (hts _ hini) hd hR, hts _ hins, hts _ hsel⟩ ⟨fun a U g mk q => by obtain ⟨q0, q1, qP, qK, qN, qD⟩ := q; exact ⟨q0, q1, qP, va_K.moved (u := U) (U := U.calling g mk a) (Vm.Alike.refl U.vm) qK, va_Nw.same rfl (rfl : U.vm = (U.calling g mk a).vm) qN, qD⟩, va_recv hK hP hc he, fun U hU hW => ⟨rfl, by rw [hU], by rw [hU]; exact hPc, va_K.moved hW.alike hK, va_Nw.warmM hW hNw, hDc.weaken (fun _ _ _ _ => trivial)⟩⟩ rfl hn hL.1 rfl (lv_room hro) hdg ⟨hcs.1, hcs.2⟩) hS (fun q _ h => hFc q h) hFc (fun u t H1 locs1 ht hvm hw0 hB hz1 hk1 hS1 => ?_)
  rw [ht] at hB
  obtain ⟨hP2, hD2⟩ := vj2 hP hD isC hC (hf1.trans hf2.symm) hk1 hB ps hck
  exact k H1 locs1 ls hP2 hD2 hS1 hL
theorem V_callSNv (x : Cx κ lc rm cc nL Ts own D cl tys)   (hM : CV lc y wds rmC D cl tys As wc w1) (n : Nat) (g : GoodIn Ts wds) (hlk : Cond.methodLinkNest own index y host = nwT) (hini : Cond.initialized y.cls ∈ Ts) (hsta : Cond.static y ∈ Ts) (hw : wds = Cond.code y bytes maxL none :: wds') (hd : y.cls ≠ "java/lang/invoke/MethodHandle" ∧ y.cls ≠ "java/lang/invoke/VarHandle" ∧ (parseMethodDescriptor y.desc).map (fun d => d.parameters.length) = some n)
    (hR : rmC.frames + 1 ≤ rm.frames ∧ 8 + (maxL + 11) + rmC.locals ≤ rm.locals) (hz : rmC.cells = 0 ∧ rmC.slots = 0)   (hn : As.length = n) (isC : List Nat) (ws' : va_W) (hC : isC.map (fun i => ws[i]?) = wc.map some) (hnd : va_nd isC = true) (ads : List Nat) (hf1 : w1.map Prod.fst = ads) (hf2 : wc.map Prod.fst = ads) (ps : List (Option Nat)) (hck : wChk isC ps = true) (hw' : wPut ws ps w1 = ws')
    (hst : st = As.reverse ++ rest) (hro : (rest.map fun v => v.category).sum ≤ 8) (hdg : decode cc pc = .ok (.invokestatic index, 3)) (hcs : cells ≤ rm.cells ∧ slots ≤ rm.slots)
    (k : V κ cells slots ws' (pc + 3) lv (rest)) : V κ cells slots ws pc lv st := by
  obtain ⟨p, l, e, R, s, m, args, below, meth, c, Q, D', cl', A, nL'⟩ := κ
  obtain ⟨rfl, rfl, rfl, rfl, rfl, hx, hb, hml, hown, hts, hK, hNw, hA⟩ := x
  subst hw'
  subst hst
  intro H locs ls hP hD hS hL
  have hPc : va_P D' cl' wc H := by
    intro k q hq
    have h1 : (isC.map (fun i => ws[i]?))[k]? = some (some q) := by rw [hC, List.getElem?_map, hq]; rfl
    rw [List.getElem?_map] at h1
    cases hi : isC[k]? with
    | none => rw [hi] at h1; cases h1
    | some i => rw [hi] at h1; exact hP i q (Option.some.inj h1)
  have hDc := hD.sub (ws' := wc) isC hnd hC
  have hFc := va_free (wc := wc) hD hS hA isC hC
  obtain ⟨hz1, hz2⟩ := hz
  have hM1 := hM H.size
  rw [hz1, hz2] at hM1
  refine va_callv (va_runSN (As := As) (rest := rest) (mc := 0) (ms := 0) ⟨hx, hb, hml, hown, hts⟩ hM1 ⟨va_cnB n hts g hw hz1 hz2 (hlk ▸ hNw) (hts _ hini) hd hR, hts _ hsta, trivial⟩ ⟨fun a U g mk q => by obtain ⟨q0, q1, qP, qK, qN, qD⟩ := q; exact ⟨q0, q1, qP, va_K.moved (u := U) (U := U.calling g mk a) (Vm.Alike.refl U.vm) qK, va_Nw.same rfl (rfl : U.vm = (U.calling g mk a).vm) qN, qD⟩, fun U hU hW => ⟨rfl, by rw [hU], by rw [hU]; exact hPc, va_K.moved hW.alike hK, va_Nw.warmM hW hNw, hDc.weaken (fun _ _ _ _ => trivial)⟩⟩ rfl hn hL.1 rfl (lv_room hro) hdg ⟨hcs.1, hcs.2⟩) hS (fun q _ h => hFc q h) hFc (fun u t H1 locs1 ht hvm hw0 hB hz1 hk1 hS1 => ?_)
  rw [ht] at hB
  obtain ⟨hP2, hD2⟩ := vj2 hP hD isC hC (hf1.trans hf2.symm) hk1 hB ps hck
  exact k H1 locs1 ls hP2 hD2 hS1 hL
end VC
