/-! V: a state of a walk as data alone: world, place, locals, stack. Rows: an instruction each. Laid by prog/mkv.py -/
def oN (o : Option Nat) : Int32 := match o with
  | none => -1
  | some n => nI n
def bI (b : Bool) : Int32 := match b with
  | false => 0
  | true => 1
abbrev Ku := Program × Launch × Env × Room × State × MethodId × Array Value × List Frame × Method × Code × (State → Prop) × va_G × List vw_C × (Nat → Prop) × Nat
def V (κ : Ku) (cells slots : Nat) (ws : va_W) (pc : Nat) (lv : List (Nat × Value)) (st : List Value) : Prop :=
  match κ with
  | (p, l, e, R, s, m, args, below, meth, c, Q, D, cl, A, nL) => ∀ (H : Heap) (locs : List Loc) (ls : Array Slot), va_P D cl ws H → va_D A ws → va_S A s.heap H locs → lv_has ls nL lv → W p l e R s m args below meth c H locs cells slots Q (F0 m pc ls st)
def Cx (κ : Ku) (lc : Launch) (rm : Room) (cc : ByteArray) (nL : Nat) (Ts : List Cond) (own : String) (D : va_G) (cl : List vw_C) (tys : List (ClassId × FieldType)) : Prop :=
  match κ with
  | (p, l', _, R, s, m, args, _, _, c, _, D', cl', A, nL') => l' = lc ∧ R = rm ∧ nL' = nL ∧ D' = D ∧ cl' = cl ∧ p.tables.exec = Jvm.exec ∧ c.code = cc ∧ c.maxLocals = nL ∧ s.vm.findClass own = some m.cls ∧ (∀ w ∈ Ts, w.before args s = true) ∧ va_K D cl tys s ∧ va_Nw nwT s ∧ ∀ q, s.heap.size ≤ q → A q
section VR
variable {κ : Ku} {lc : Launch} {rm : Room} {cc : ByteArray} {nL : Nat} {Ts : List Cond} {own : String} {D : va_G} {cl : List vw_C} {tys : List (ClassId × FieldType)}
variable {cells slots : Nat} {ws : va_W} {pc : Nat} {lv : List (Nat × Value)} {st : List Value}
theorem lv_lk {lv : List (Nat × Value)} {i : Nat} {v : Value} (h : lv.lookup i = some v) : (i, v) ∈ lv := by
  induction lv with
  | nil => cases h
  | cons a l ih =>
    obtain ⟨j, w⟩ := a
    rw [List.lookup_cons] at h
    by_cases e : i = j
    · subst e
      simp at h
      subst h
      exact List.mem_cons_self
    · rw [show (i == j) = false by simpa using e] at h
      exact List.mem_cons_of_mem _ (ih h)
theorem V.cw {ws' : va_W} (h : ws = ws') (k : V κ cells slots ws' pc lv st) : V κ cells slots ws pc lv st := h ▸ k
theorem V.cs {st' : List Value} (h : st = st') (k : V κ cells slots ws pc lv st') : V κ cells slots ws pc lv st := h ▸ k
theorem V.cvl {lv' : List (Nat × Value)} (h : lv = lv') (k : V κ cells slots ws pc lv' st) : V κ cells slots ws pc lv st := h ▸ k
theorem V.ci {x x' : Int32} (h : x = x') (k : V κ cells slots ws pc lv (.int x' :: st)) : V κ cells slots ws pc lv (.int x :: st) := h ▸ k
theorem V.cj {x x' : Int64} (h : x = x') (k : V κ cells slots ws pc lv (.long x' :: st)) : V κ cells slots ws pc lv (.long x :: st) := h ▸ k
/-- fewer locals -/
theorem V.sub {lv' : List (Nat × Value)} (ks : List Nat) (h : lv_pick lv ks = lv') (k : V κ cells slots ws pc lv' st) : V κ cells slots ws pc lv st := by
  obtain ⟨p, l, e, R, s, m, args, below, meth, c, Q, D', cl', A, nL'⟩ := κ
  exact fun H locs ls hP hD hS hL => k H locs ls hP hD hS (lv_sub hL ks h)
theorem V.widen {k n : Nat} (h1 : cells ≤ k) (h2 : slots ≤ n) (kk : V κ k n ws pc lv st) : V κ cells slots ws pc lv st := by
  obtain ⟨p, l, e, R, s, m, args, below, meth, c, Q, D', cl', A, nL'⟩ := κ
  exact fun H locs ls hP hD hS hL => W.widen h1 h2 (kk H locs ls hP hD hS hL)

theorem V_iconst (x : Cx κ lc rm cc nL Ts own D cl tys) {n : Int} {v : Int32} (hdg : decode cc pc = .ok (.iconst n, 1)) (hv : Int32.ofInt n = v)
    (k : V κ cells slots ws (pc + 1) lv (.int v :: st)) : V κ cells slots ws pc lv st := by
  obtain ⟨p, l, e, R, s, m, args, below, meth, c, Q, D', cl', A, nL'⟩ := κ
  obtain ⟨rfl, rfl, rfl, rfl, rfl, hx, hb, hml, hown, hts, hK, hNw, hA⟩ := x
  exact fun H locs ls hP hD hS hL => lv_iconst hx hb hdg hv (k H locs ls hP hD hS hL)
theorem V_bipush (x : Cx κ lc rm cc nL Ts own D cl tys) {n : Int} {v : Int32} (hdg : decode cc pc = .ok (.bipush n, 2)) (hv : (Int8.ofInt n).toInt32 = v)
    (k : V κ cells slots ws (pc + 2) lv (.int v :: st)) : V κ cells slots ws pc lv st := by
  obtain ⟨p, l, e, R, s, m, args, below, meth, c, Q, D', cl', A, nL'⟩ := κ
  obtain ⟨rfl, rfl, rfl, rfl, rfl, hx, hb, hml, hown, hts, hK, hNw, hA⟩ := x
  exact fun H locs ls hP hD hS hL => lv_bipush hx hb hdg hv (k H locs ls hP hD hS hL)
theorem V_sipush (x : Cx κ lc rm cc nL Ts own D cl tys) {n : Int} {v : Int32} (hdg : decode cc pc = .ok (.sipush n, 3)) (hv : (Int16.ofInt n).toInt32 = v)
    (k : V κ cells slots ws (pc + 3) lv (.int v :: st)) : V κ cells slots ws pc lv st := by
  obtain ⟨p, l, e, R, s, m, args, below, meth, c, Q, D', cl', A, nL'⟩ := κ
  obtain ⟨rfl, rfl, rfl, rfl, rfl, hx, hb, hml, hown, hts, hK, hNw, hA⟩ := x
  exact fun H locs ls hP hD hS hL => lv_sipush hx hb hdg hv (k H locs ls hP hD hS hL)
theorem V_lconst (x : Cx κ lc rm cc nL Ts own D cl tys) {n : Fin 2} {v : Int64} (hdg : decode cc pc = .ok (.lconst n, 1)) (hv : Int64.ofNat (n : Nat) = v)
    (k : V κ cells slots ws (pc + 1) lv (.long v :: st)) : V κ cells slots ws pc lv st := by
  obtain ⟨p, l, e, R, s, m, args, below, meth, c, Q, D', cl', A, nL'⟩ := κ
  obtain ⟨rfl, rfl, rfl, rfl, rfl, hx, hb, hml, hown, hts, hK, hNw, hA⟩ := x
  exact fun H locs ls hP hD hS hL => lv_lconst hx hb hdg hv (k H locs ls hP hD hS hL)
theorem V_iload_n (x : Cx κ lc rm cc nL Ts own D cl tys) {j : Fin 4} (i : Nat) {v : Int32} (hdg : decode cc pc = .ok (.iload_n j, 1)) (hi : (j : Nat) = i) (hv : lv.lookup i = some (.int v))
    (k : V κ cells slots ws (pc + 1) lv (.int v :: st)) : V κ cells slots ws pc lv st := by
  obtain ⟨p, l, e, R, s, m, args, below, meth, c, Q, D', cl', A, nL'⟩ := κ
  obtain ⟨rfl, rfl, rfl, rfl, rfl, hx, hb, hml, hown, hts, hK, hNw, hA⟩ := x
  exact fun H locs ls hP hD hS hL => lv_iload_n hx hb hdg hi (hL.2.2 _ (lv_lk hv)) (k H locs ls hP hD hS hL)
theorem V_iload (x : Cx κ lc rm cc nL Ts own D cl tys) (i : Nat) {v : Int32} (hdg : decode cc pc = .ok (.iload i, 2)) (hv : lv.lookup i = some (.int v))
    (k : V κ cells slots ws (pc + 2) lv (.int v :: st)) : V κ cells slots ws pc lv st := by
  obtain ⟨p, l, e, R, s, m, args, below, meth, c, Q, D', cl', A, nL'⟩ := κ
  obtain ⟨rfl, rfl, rfl, rfl, rfl, hx, hb, hml, hown, hts, hK, hNw, hA⟩ := x
  exact fun H locs ls hP hD hS hL => lv_iload hx hb hdg (hL.2.2 _ (lv_lk hv)) (k H locs ls hP hD hS hL)
theorem V_lload_n (x : Cx κ lc rm cc nL Ts own D cl tys) {j : Fin 4} (i : Nat) {v : Int64} (hdg : decode cc pc = .ok (.lload_n j, 1)) (hi : (j : Nat) = i) (hv : lv.lookup i = some (.long v))
    (k : V κ cells slots ws (pc + 1) lv (.long v :: st)) : V κ cells slots ws pc lv st := by
  obtain ⟨p, l, e, R, s, m, args, below, meth, c, Q, D', cl', A, nL'⟩ := κ
  obtain ⟨rfl, rfl, rfl, rfl, rfl, hx, hb, hml, hown, hts, hK, hNw, hA⟩ := x
  exact fun H locs ls hP hD hS hL => lv_lload_n hx hb hdg hi (hL.2.2 _ (lv_lk hv)) (k H locs ls hP hD hS hL)
theorem V_lload (x : Cx κ lc rm cc nL Ts own D cl tys) (i : Nat) {v : Int64} (hdg : decode cc pc = .ok (.lload i, 2)) (hv : lv.lookup i = some (.long v))
    (k : V κ cells slots ws (pc + 2) lv (.long v :: st)) : V κ cells slots ws pc lv st := by
  obtain ⟨p, l, e, R, s, m, args, below, meth, c, Q, D', cl', A, nL'⟩ := κ
  obtain ⟨rfl, rfl, rfl, rfl, rfl, hx, hb, hml, hown, hts, hK, hNw, hA⟩ := x
  exact fun H locs ls hP hD hS hL => lv_lload hx hb hdg (hL.2.2 _ (lv_lk hv)) (k H locs ls hP hD hS hL)
theorem V_aload_n (x : Cx κ lc rm cc nL Ts own D cl tys) {j : Fin 4} (i : Nat) {v : Nat} (hdg : decode cc pc = .ok (.aload_n j, 1)) (hi : (j : Nat) = i) (hv : lv.lookup i = some (.ref v))
    (k : V κ cells slots ws (pc + 1) lv (.ref v :: st)) : V κ cells slots ws pc lv st := by
  obtain ⟨p, l, e, R, s, m, args, below, meth, c, Q, D', cl', A, nL'⟩ := κ
  obtain ⟨rfl, rfl, rfl, rfl, rfl, hx, hb, hml, hown, hts, hK, hNw, hA⟩ := x
  exact fun H locs ls hP hD hS hL => lv_aload_n hx hb hdg hi (hL.2.2 _ (lv_lk hv)) (k H locs ls hP hD hS hL)
theorem V_aload (x : Cx κ lc rm cc nL Ts own D cl tys) (i : Nat) {v : Nat} (hdg : decode cc pc = .ok (.aload i, 2)) (hv : lv.lookup i = some (.ref v))
    (k : V κ cells slots ws (pc + 2) lv (.ref v :: st)) : V κ cells slots ws pc lv st := by
  obtain ⟨p, l, e, R, s, m, args, below, meth, c, Q, D', cl', A, nL'⟩ := κ
  obtain ⟨rfl, rfl, rfl, rfl, rfl, hx, hb, hml, hown, hts, hK, hNw, hA⟩ := x
  exact fun H locs ls hP hD hS hL => lv_aload hx hb hdg (hL.2.2 _ (lv_lk hv)) (k H locs ls hP hD hS hL)
theorem V_istore_n (x : Cx κ lc rm cc nL Ts own D cl tys) {j : Fin 4} (i : Nat) {v : Int32} (lv' : List (Nat × Value)) (hdg : decode cc pc = .ok (.istore_n j, 1)) (hi : (j : Nat) = i) (hn : i < nL) (hl : (i, Value.int v) :: lv.filter (fun q => !(q.1 == i) && !(q.1 + 1 == i && q.2.category == 2)) = lv')
    (k : V κ cells slots ws (pc + 1) lv' st) : V κ cells slots ws pc lv (.int v :: st) := by
  obtain ⟨p, l, e, R, s, m, args, below, meth, c, Q, D', cl', A, nL'⟩ := κ
  obtain ⟨rfl, rfl, rfl, rfl, rfl, hx, hb, hml, hown, hts, hK, hNw, hA⟩ := x
  exact fun H locs ls hP hD hS hL => lv_istore_n hx hb hdg hi hL hn hl (fun ls' hL' => k H locs ls' hP hD hS hL')
theorem V_istore (x : Cx κ lc rm cc nL Ts own D cl tys) (i : Nat) {v : Int32} (lv' : List (Nat × Value)) (hdg : decode cc pc = .ok (.istore i, 2)) (hn : i < nL) (hl : (i, Value.int v) :: lv.filter (fun q => !(q.1 == i) && !(q.1 + 1 == i && q.2.category == 2)) = lv')
    (k : V κ cells slots ws (pc + 2) lv' st) : V κ cells slots ws pc lv (.int v :: st) := by
  obtain ⟨p, l, e, R, s, m, args, below, meth, c, Q, D', cl', A, nL'⟩ := κ
  obtain ⟨rfl, rfl, rfl, rfl, rfl, hx, hb, hml, hown, hts, hK, hNw, hA⟩ := x
  exact fun H locs ls hP hD hS hL => lv_istore hx hb hdg hL hn hl (fun ls' hL' => k H locs ls' hP hD hS hL')
theorem V_astore_n (x : Cx κ lc rm cc nL Ts own D cl tys) {j : Fin 4} (i : Nat) {v : Nat} (lv' : List (Nat × Value)) (hdg : decode cc pc = .ok (.astore_n j, 1)) (hi : (j : Nat) = i) (hn : i < nL) (hl : (i, Value.ref v) :: lv.filter (fun q => !(q.1 == i) && !(q.1 + 1 == i && q.2.category == 2)) = lv')
    (k : V κ cells slots ws (pc + 1) lv' st) : V κ cells slots ws pc lv (.ref v :: st) := by
  obtain ⟨p, l, e, R, s, m, args, below, meth, c, Q, D', cl', A, nL'⟩ := κ
  obtain ⟨rfl, rfl, rfl, rfl, rfl, hx, hb, hml, hown, hts, hK, hNw, hA⟩ := x
  exact fun H locs ls hP hD hS hL => lv_astore_n hx hb hdg hi hL hn hl (fun ls' hL' => k H locs ls' hP hD hS hL')
theorem V_astore (x : Cx κ lc rm cc nL Ts own D cl tys) (i : Nat) {v : Nat} (lv' : List (Nat × Value)) (hdg : decode cc pc = .ok (.astore i, 2)) (hn : i < nL) (hl : (i, Value.ref v) :: lv.filter (fun q => !(q.1 == i) && !(q.1 + 1 == i && q.2.category == 2)) = lv')
    (k : V κ cells slots ws (pc + 2) lv' st) : V κ cells slots ws pc lv (.ref v :: st) := by
  obtain ⟨p, l, e, R, s, m, args, below, meth, c, Q, D', cl', A, nL'⟩ := κ
  obtain ⟨rfl, rfl, rfl, rfl, rfl, hx, hb, hml, hown, hts, hK, hNw, hA⟩ := x
  exact fun H locs ls hP hD hS hL => lv_astore hx hb hdg hL hn hl (fun ls' hL' => k H locs ls' hP hD hS hL')
theorem V_lstore_n (x : Cx κ lc rm cc nL Ts own D cl tys) {j : Fin 4} (i : Nat) {v : Int64} (lv' : List (Nat × Value)) (hdg : decode cc pc = .ok (.lstore_n j, 1)) (hi : (j : Nat) = i) (hn : i + 1 < nL) (hl : (i, Value.long v) :: lv.filter (fun q => !(q.1 == i) && (!(q.1 == i + 1) && !(q.1 + 1 == i && q.2.category == 2))) = lv')
    (k : V κ cells slots ws (pc + 1) lv' st) : V κ cells slots ws pc lv (.long v :: st) := by
  obtain ⟨p, l, e, R, s, m, args, below, meth, c, Q, D', cl', A, nL'⟩ := κ
  obtain ⟨rfl, rfl, rfl, rfl, rfl, hx, hb, hml, hown, hts, hK, hNw, hA⟩ := x
  exact fun H locs ls hP hD hS hL => lv_lstore_n hx hb hdg hi hL hn hl (fun ls' hL' => k H locs ls' hP hD hS hL')
theorem V_iinc (x : Cx κ lc rm cc nL Ts own D cl tys) (i j : Nat) {n : Int} {y v : Int32} (lv' : List (Nat × Value)) (hdg : decode cc pc = .ok (.iinc i n, 3)) (hk : lv[j]? = some (i, .int y)) (hv : y + Int32.ofInt n = v) (hn : i < nL) (hl : (i, Value.int v) :: lv.filter (fun q => !(q.1 == i) && !(q.1 + 1 == i && q.2.category == 2)) = lv')
    (k : V κ cells slots ws (pc + 3) lv' st) : V κ cells slots ws pc lv st := by
  obtain ⟨p, l, e, R, s, m, args, below, meth, c, Q, D', cl', A, nL'⟩ := κ
  obtain ⟨rfl, rfl, rfl, rfl, rfl, hx, hb, hml, hown, hts, hK, hNw, hA⟩ := x
  exact fun H locs ls hP hD hS hL => lv_iinc hx hb hdg hL hk hv hn hl (fun ls' hL' => k H locs ls' hP hD hS hL')
theorem V_iadd (x : Cx κ lc rm cc nL Ts own D cl tys) {a b : Int32} (r : Int32) (hdg : decode cc pc = .ok (.iadd, 1)) (hv : a + b = r)
    (k : V κ cells slots ws (pc + 1) lv (.int r :: st)) : V κ cells slots ws pc lv (.int b :: .int a :: st) := by
  obtain ⟨p, l, e, R, s, m, args, below, meth, c, Q, D', cl', A, nL'⟩ := κ
  obtain ⟨rfl, rfl, rfl, rfl, rfl, hx, hb, hml, hown, hts, hK, hNw, hA⟩ := x
  subst hv
  exact fun H locs ls hP hD hS hL => lv_iadd hx hb hdg (k H locs ls hP hD hS hL)
theorem V_isub (x : Cx κ lc rm cc nL Ts own D cl tys) {a b : Int32} (r : Int32) (hdg : decode cc pc = .ok (.isub, 1)) (hv : a - b = r)
    (k : V κ cells slots ws (pc + 1) lv (.int r :: st)) : V κ cells slots ws pc lv (.int b :: .int a :: st) := by
  obtain ⟨p, l, e, R, s, m, args, below, meth, c, Q, D', cl', A, nL'⟩ := κ
  obtain ⟨rfl, rfl, rfl, rfl, rfl, hx, hb, hml, hown, hts, hK, hNw, hA⟩ := x
  subst hv
  exact fun H locs ls hP hD hS hL => lv_isub hx hb hdg (k H locs ls hP hD hS hL)
theorem V_imul (x : Cx κ lc rm cc nL Ts own D cl tys) {a b : Int32} (r : Int32) (hdg : decode cc pc = .ok (.imul, 1)) (hv : a * b = r)
    (k : V κ cells slots ws (pc + 1) lv (.int r :: st)) : V κ cells slots ws pc lv (.int b :: .int a :: st) := by
  obtain ⟨p, l, e, R, s, m, args, below, meth, c, Q, D', cl', A, nL'⟩ := κ
  obtain ⟨rfl, rfl, rfl, rfl, rfl, hx, hb, hml, hown, hts, hK, hNw, hA⟩ := x
  subst hv
  exact fun H locs ls hP hD hS hL => lv_imul hx hb hdg (k H locs ls hP hD hS hL)
theorem V_iand (x : Cx κ lc rm cc nL Ts own D cl tys) {a b : Int32} (r : Int32) (hdg : decode cc pc = .ok (.iand, 1)) (hv : a &&& b = r)
    (k : V κ cells slots ws (pc + 1) lv (.int r :: st)) : V κ cells slots ws pc lv (.int b :: .int a :: st) := by
  obtain ⟨p, l, e, R, s, m, args, below, meth, c, Q, D', cl', A, nL'⟩ := κ
  obtain ⟨rfl, rfl, rfl, rfl, rfl, hx, hb, hml, hown, hts, hK, hNw, hA⟩ := x
  subst hv
  exact fun H locs ls hP hD hS hL => lv_iand hx hb hdg (k H locs ls hP hD hS hL)
theorem V_ladd (x : Cx κ lc rm cc nL Ts own D cl tys) {a b : Int64} (r : Int64) (hdg : decode cc pc = .ok (.ladd, 1)) (hv : a + b = r)
    (k : V κ cells slots ws (pc + 1) lv (.long r :: st)) : V κ cells slots ws pc lv (.long b :: .long a :: st) := by
  obtain ⟨p, l, e, R, s, m, args, below, meth, c, Q, D', cl', A, nL'⟩ := κ
  obtain ⟨rfl, rfl, rfl, rfl, rfl, hx, hb, hml, hown, hts, hK, hNw, hA⟩ := x
  subst hv
  exact fun H locs ls hP hD hS hL => lv_ladd hx hb hdg (k H locs ls hP hD hS hL)
theorem V_i2l (x : Cx κ lc rm cc nL Ts own D cl tys) {a : Int32} (r : Int64) (hdg : decode cc pc = .ok (.i2l, 1)) (hv : a.toInt64 = r)
    (k : V κ cells slots ws (pc + 1) lv (.long r :: st)) : V κ cells slots ws pc lv (.int a :: st) := by
  obtain ⟨p, l, e, R, s, m, args, below, meth, c, Q, D', cl', A, nL'⟩ := κ
  obtain ⟨rfl, rfl, rfl, rfl, rfl, hx, hb, hml, hown, hts, hK, hNw, hA⟩ := x
  exact fun H locs ls hP hD hS hL => lv_i2l hx hb hdg hv (k H locs ls hP hD hS hL)
theorem V_i2c (x : Cx κ lc rm cc nL Ts own D cl tys) {a : Int32} (r : Int32) (hdg : decode cc pc = .ok (.i2c, 1)) (hv : (a.toUInt32 % 65536).toInt32 = r)
    (k : V κ cells slots ws (pc + 1) lv (.int r :: st)) : V κ cells slots ws pc lv (.int a :: st) := by
  obtain ⟨p, l, e, R, s, m, args, below, meth, c, Q, D', cl', A, nL'⟩ := κ
  obtain ⟨rfl, rfl, rfl, rfl, rfl, hx, hb, hml, hown, hts, hK, hNw, hA⟩ := x
  exact fun H locs ls hP hD hS hL => lv_i2c hx hb hdg hv (k H locs ls hP hD hS hL)
theorem V_lcmp (x : Cx κ lc rm cc nL Ts own D cl tys) {a b : Int64} (hdg : decode cc pc = .ok (.lcmp, 1))
    (k : V κ cells slots ws (pc + 1) lv (.int (lg_cmp a b) :: st)) : V κ cells slots ws pc lv (.long b :: .long a :: st) := by
  obtain ⟨p, l, e, R, s, m, args, below, meth, c, Q, D', cl', A, nL'⟩ := κ
  obtain ⟨rfl, rfl, rfl, rfl, rfl, hx, hb, hml, hown, hts, hK, hNw, hA⟩ := x
  exact fun H locs ls hP hD hS hL => W.lcmp hx hb hdg (k H locs ls hP hD hS hL)
theorem V_dup (x : Cx κ lc rm cc nL Ts own D cl tys) {v : Value} (hdg : decode cc pc = .ok (.dup, 1)) (hv : v.category = 1)
    (k : V κ cells slots ws (pc + 1) lv (v :: v :: st)) : V κ cells slots ws pc lv (v :: st) := by
  obtain ⟨p, l, e, R, s, m, args, below, meth, c, Q, D', cl', A, nL'⟩ := κ
  obtain ⟨rfl, rfl, rfl, rfl, rfl, hx, hb, hml, hown, hts, hK, hNw, hA⟩ := x
  exact fun H locs ls hP hD hS hL => lv_dup hx hb hdg hv (k H locs ls hP hD hS hL)
theorem V_dup2 (x : Cx κ lc rm cc nL Ts own D cl tys) {v w : Value} (hdg : decode cc pc = .ok (.dup2, 1)) (hv : v.category = 1) (hw : w.category = 1)
    (k : V κ cells slots ws (pc + 1) lv (v :: w :: v :: w :: st)) : V κ cells slots ws pc lv (v :: w :: st) := by
  obtain ⟨p, l, e, R, s, m, args, below, meth, c, Q, D', cl', A, nL'⟩ := κ
  obtain ⟨rfl, rfl, rfl, rfl, rfl, hx, hb, hml, hown, hts, hK, hNw, hA⟩ := x
  exact fun H locs ls hP hD hS hL => lv_dup2_11 hx hb hdg hv hw (k H locs ls hP hD hS hL)
theorem V_pop (x : Cx κ lc rm cc nL Ts own D cl tys) {v : Value} (hdg : decode cc pc = .ok (.pop, 1)) (hv : v.category = 1)
    (k : V κ cells slots ws (pc + 1) lv st) : V κ cells slots ws pc lv (v :: st) := by
  obtain ⟨p, l, e, R, s, m, args, below, meth, c, Q, D', cl', A, nL'⟩ := κ
  obtain ⟨rfl, rfl, rfl, rfl, rfl, hx, hb, hml, hown, hts, hK, hNw, hA⟩ := x
  exact fun H locs ls hP hD hS hL => lv_pop hx hb hdg hv (k H locs ls hP hD hS hL)
theorem eN0 {a : Nat} (ha : a < 2147483648) : nI a = 0 ↔ a = 0 := nI_eq (a := a) (b := 0) ha (by decide)
theorem neN0 {a : Nat} (ha : a < 2147483648) : ¬ nI a = 0 ↔ 0 < a := by rw [eN0 ha]; omega
theorem pN0 {a : Nat} (ha : a < 2147483648) (h : 0 < nI a) : 0 < a := (nI_ltI (a := 0) (b := a) (by decide) ha).mp h
theorem npN0 {a : Nat} (ha : a < 2147483648) (h : ¬ 0 < nI a) : a = 0 := by
  have : ¬ 0 < a := fun q => h ((nI_ltI (a := 0) (b := a) (by decide) ha).mpr q)
  omega
theorem lN0 {a : Nat} (ha : a < 2147483648) (h : nI a ≤ 0) : a = 0 := by
  have := (nI_leI (a := a) (b := 0) ha (by decide)).mp h
  omega
theorem nlN0 {a : Nat} (ha : a < 2147483648) (h : ¬ nI a ≤ 0) : 0 < a := by
  have : ¬ a ≤ 0 := fun q => h ((nI_leI (a := a) (b := 0) ha (by decide)).mpr q)
  omega
theorem nI_ne_m1 {a : Nat} (ha : a < 2147483648) : ¬ nI a = -1 := by
  intro h
  have h1 := nI_pos (n := a) ha
  rw [h] at h1
  exact h1 (by decide)
theorem oN_none : oN none = -1 := rfl
theorem oN_some (n : Nat) : oN (some n) = nI n := rfl
theorem oN_m1 {o : Option Nat} (h : ∀ n, o = some n → n < 2147483648) : oN o = -1 ↔ o = none := by
  cases o with
  | none => exact ⟨fun _ => rfl, fun _ => rfl⟩
  | some n => exact ⟨fun q => absurd q (nI_ne_m1 (h n rfl)), fun q => by cases q⟩
theorem bI_0 {b : Bool} : bI b = 0 ↔ b = false := by cases b <;> decide
theorem bI_1 {b : Bool} : ¬ bI b = 0 ↔ b = true := by cases b <;> decide
theorem V_if_eq (x : Cx κ lc rm cc nL Ts own D cl tys) {a : Int32} {off : Int} (tgt : Nat) (hdg : decode cc pc = .ok (.ifCond .eq off, 3)) (ht : (pc : Int) + off = (tgt : Int))
    (kt : a = 0 → V κ cells slots ws tgt lv st) (kf : ¬ a = 0 → V κ cells slots ws (pc + 3) lv st) : V κ cells slots ws pc lv (.int a :: st) := by
  obtain ⟨p, l, e, R, s, m, args, below, meth, c, Q, D', cl', A, nL'⟩ := κ
  obtain ⟨rfl, rfl, rfl, rfl, rfl, hx, hb, hml, hown, hts, hK, hNw, hA⟩ := x
  exact fun H locs ls hP hD hS hL => lv_if_eq hx hb hdg ht (fun h => kt h H locs ls hP hD hS hL) (fun h => kf h H locs ls hP hD hS hL)
theorem V_if_eqN (x : Cx κ lc rm cc nL Ts own D cl tys) {a : Nat} {off : Int} (tgt : Nat) (hdg : decode cc pc = .ok (.ifCond .eq off, 3)) (ht : (pc : Int) + off = (tgt : Int))
    (kt : a = 0 → V κ cells slots ws tgt lv st) (kf : 0 < a → V κ cells slots ws (pc + 3) lv st) (ha : a < 2147483648 := by omega) : V κ cells slots ws pc lv (.int (nI a) :: st) :=
  V_if_eq x tgt hdg ht (fun h => kt ((eN0 ha).mp h)) (fun h => kf ((neN0 ha).mp h))
theorem V_if_ne (x : Cx κ lc rm cc nL Ts own D cl tys) {a : Int32} {off : Int} (tgt : Nat) (hdg : decode cc pc = .ok (.ifCond .ne off, 3)) (ht : (pc : Int) + off = (tgt : Int))
    (kt : ¬ a = 0 → V κ cells slots ws tgt lv st) (kf : a = 0 → V κ cells slots ws (pc + 3) lv st) : V κ cells slots ws pc lv (.int a :: st) := by
  obtain ⟨p, l, e, R, s, m, args, below, meth, c, Q, D', cl', A, nL'⟩ := κ
  obtain ⟨rfl, rfl, rfl, rfl, rfl, hx, hb, hml, hown, hts, hK, hNw, hA⟩ := x
  exact fun H locs ls hP hD hS hL => lv_if_ne hx hb hdg ht (fun h => kt h H locs ls hP hD hS hL) (fun h => kf h H locs ls hP hD hS hL)
theorem V_if_neN (x : Cx κ lc rm cc nL Ts own D cl tys) {a : Nat} {off : Int} (tgt : Nat) (hdg : decode cc pc = .ok (.ifCond .ne off, 3)) (ht : (pc : Int) + off = (tgt : Int))
    (kt : 0 < a → V κ cells slots ws tgt lv st) (kf : a = 0 → V κ cells slots ws (pc + 3) lv st) (ha : a < 2147483648 := by omega) : V κ cells slots ws pc lv (.int (nI a) :: st) :=
  V_if_ne x tgt hdg ht (fun h => kt ((neN0 ha).mp h)) (fun h => kf ((eN0 ha).mp h))
theorem V_if_lt (x : Cx κ lc rm cc nL Ts own D cl tys) {a : Int32} {off : Int} (tgt : Nat) (hdg : decode cc pc = .ok (.ifCond .lt off, 3)) (ht : (pc : Int) + off = (tgt : Int))
    (kt : a < 0 → V κ cells slots ws tgt lv st) (kf : ¬ a < 0 → V κ cells slots ws (pc + 3) lv st) : V κ cells slots ws pc lv (.int a :: st) := by
  obtain ⟨p, l, e, R, s, m, args, below, meth, c, Q, D', cl', A, nL'⟩ := κ
  obtain ⟨rfl, rfl, rfl, rfl, rfl, hx, hb, hml, hown, hts, hK, hNw, hA⟩ := x
  exact fun H locs ls hP hD hS hL => lv_if_lt hx hb hdg ht (fun h => kt h H locs ls hP hD hS hL) (fun h => kf h H locs ls hP hD hS hL)
theorem V_if_ltN (x : Cx κ lc rm cc nL Ts own D cl tys) {a : Nat} {off : Int} (tgt : Nat) (hdg : decode cc pc = .ok (.ifCond .lt off, 3)) (ht : (pc : Int) + off = (tgt : Int))
    (kt : False → V κ cells slots ws tgt lv st) (kf : True → V κ cells slots ws (pc + 3) lv st) (ha : a < 2147483648 := by omega) : V κ cells slots ws pc lv (.int (nI a) :: st) :=
  V_if_lt x tgt hdg ht (fun h => kt (nI_pos ha h)) (fun h => kf trivial)
theorem V_if_ge (x : Cx κ lc rm cc nL Ts own D cl tys) {a : Int32} {off : Int} (tgt : Nat) (hdg : decode cc pc = .ok (.ifCond .ge off, 3)) (ht : (pc : Int) + off = (tgt : Int))
    (kt : 0 ≤ a → V κ cells slots ws tgt lv st) (kf : ¬ 0 ≤ a → V κ cells slots ws (pc + 3) lv st) : V κ cells slots ws pc lv (.int a :: st) := by
  obtain ⟨p, l, e, R, s, m, args, below, meth, c, Q, D', cl', A, nL'⟩ := κ
  obtain ⟨rfl, rfl, rfl, rfl, rfl, hx, hb, hml, hown, hts, hK, hNw, hA⟩ := x
  exact fun H locs ls hP hD hS hL => lv_if_ge hx hb hdg ht (fun h => kt h H locs ls hP hD hS hL) (fun h => kf h H locs ls hP hD hS hL)
theorem V_if_geN (x : Cx κ lc rm cc nL Ts own D cl tys) {a : Nat} {off : Int} (tgt : Nat) (hdg : decode cc pc = .ok (.ifCond .ge off, 3)) (ht : (pc : Int) + off = (tgt : Int))
    (kt : True → V κ cells slots ws tgt lv st) (kf : False → V κ cells slots ws (pc + 3) lv st) (ha : a < 2147483648 := by omega) : V κ cells slots ws pc lv (.int (nI a) :: st) :=
  V_if_ge x tgt hdg ht (fun h => kt trivial) (fun h => kf (h (nI_pos' ha)))
theorem V_if_gt (x : Cx κ lc rm cc nL Ts own D cl tys) {a : Int32} {off : Int} (tgt : Nat) (hdg : decode cc pc = .ok (.ifCond .gt off, 3)) (ht : (pc : Int) + off = (tgt : Int))
    (kt : 0 < a → V κ cells slots ws tgt lv st) (kf : ¬ 0 < a → V κ cells slots ws (pc + 3) lv st) : V κ cells slots ws pc lv (.int a :: st) := by
  obtain ⟨p, l, e, R, s, m, args, below, meth, c, Q, D', cl', A, nL'⟩ := κ
  obtain ⟨rfl, rfl, rfl, rfl, rfl, hx, hb, hml, hown, hts, hK, hNw, hA⟩ := x
  exact fun H locs ls hP hD hS hL => lv_if_gt hx hb hdg ht (fun h => kt h H locs ls hP hD hS hL) (fun h => kf h H locs ls hP hD hS hL)
theorem V_if_gtN (x : Cx κ lc rm cc nL Ts own D cl tys) {a : Nat} {off : Int} (tgt : Nat) (hdg : decode cc pc = .ok (.ifCond .gt off, 3)) (ht : (pc : Int) + off = (tgt : Int))
    (kt : 0 < a → V κ cells slots ws tgt lv st) (kf : a = 0 → V κ cells slots ws (pc + 3) lv st) (ha : a < 2147483648 := by omega) : V κ cells slots ws pc lv (.int (nI a) :: st) :=
  V_if_gt x tgt hdg ht (fun h => kt (pN0 ha h)) (fun h => kf (npN0 ha h))
theorem V_if_le (x : Cx κ lc rm cc nL Ts own D cl tys) {a : Int32} {off : Int} (tgt : Nat) (hdg : decode cc pc = .ok (.ifCond .le off, 3)) (ht : (pc : Int) + off = (tgt : Int))
    (kt : a ≤ 0 → V κ cells slots ws tgt lv st) (kf : ¬ a ≤ 0 → V κ cells slots ws (pc + 3) lv st) : V κ cells slots ws pc lv (.int a :: st) := by
  obtain ⟨p, l, e, R, s, m, args, below, meth, c, Q, D', cl', A, nL'⟩ := κ
  obtain ⟨rfl, rfl, rfl, rfl, rfl, hx, hb, hml, hown, hts, hK, hNw, hA⟩ := x
  exact fun H locs ls hP hD hS hL => lv_if_le hx hb hdg ht (fun h => kt h H locs ls hP hD hS hL) (fun h => kf h H locs ls hP hD hS hL)
theorem V_if_leN (x : Cx κ lc rm cc nL Ts own D cl tys) {a : Nat} {off : Int} (tgt : Nat) (hdg : decode cc pc = .ok (.ifCond .le off, 3)) (ht : (pc : Int) + off = (tgt : Int))
    (kt : a = 0 → V κ cells slots ws tgt lv st) (kf : 0 < a → V κ cells slots ws (pc + 3) lv st) (ha : a < 2147483648 := by omega) : V κ cells slots ws pc lv (.int (nI a) :: st) :=
  V_if_le x tgt hdg ht (fun h => kt (lN0 ha h)) (fun h => kf (nlN0 ha h))
theorem V_icmp_eq (x : Cx κ lc rm cc nL Ts own D cl tys) {a b : Int32} {off : Int} (tgt : Nat) (hdg : decode cc pc = .ok (.if_icmp .eq off, 3)) (ht : (pc : Int) + off = (tgt : Int))
    (kt : a = b → V κ cells slots ws tgt lv st) (kf : ¬ a = b → V κ cells slots ws (pc + 3) lv st) : V κ cells slots ws pc lv (.int b :: .int a :: st) := by
  obtain ⟨p, l, e, R, s, m, args, below, meth, c, Q, D', cl', A, nL'⟩ := κ
  obtain ⟨rfl, rfl, rfl, rfl, rfl, hx, hb, hml, hown, hts, hK, hNw, hA⟩ := x
  exact fun H locs ls hP hD hS hL => lv_icmp_eq hx hb hdg ht (fun h => kt h H locs ls hP hD hS hL) (fun h => kf h H locs ls hP hD hS hL)
theorem V_icmp_eqN (x : Cx κ lc rm cc nL Ts own D cl tys) {a b : Nat} {off : Int} (tgt : Nat) (hdg : decode cc pc = .ok (.if_icmp .eq off, 3)) (ht : (pc : Int) + off = (tgt : Int))
    (kt : a = b → V κ cells slots ws tgt lv st) (kf : a ≠ b → V κ cells slots ws (pc + 3) lv st) (ha : a < 2147483648 := by omega) (hb : b < 2147483648 := by omega) : V κ cells slots ws pc lv (.int (nI b) :: .int (nI a) :: st) :=
  V_icmp_eq x tgt hdg ht (fun h => kt ((nI_eq ha hb).mp h)) (fun h => kf (fun q => h ((nI_eq ha hb).mpr q)))
theorem V_icmp_ne (x : Cx κ lc rm cc nL Ts own D cl tys) {a b : Int32} {off : Int} (tgt : Nat) (hdg : decode cc pc = .ok (.if_icmp .ne off, 3)) (ht : (pc : Int) + off = (tgt : Int))
    (kt : ¬ a = b → V κ cells slots ws tgt lv st) (kf : a = b → V κ cells slots ws (pc + 3) lv st) : V κ cells slots ws pc lv (.int b :: .int a :: st) := by
  obtain ⟨p, l, e, R, s, m, args, below, meth, c, Q, D', cl', A, nL'⟩ := κ
  obtain ⟨rfl, rfl, rfl, rfl, rfl, hx, hb, hml, hown, hts, hK, hNw, hA⟩ := x
  exact fun H locs ls hP hD hS hL => lv_icmp_ne hx hb hdg ht (fun h => kt h H locs ls hP hD hS hL) (fun h => kf h H locs ls hP hD hS hL)
theorem V_icmp_neN (x : Cx κ lc rm cc nL Ts own D cl tys) {a b : Nat} {off : Int} (tgt : Nat) (hdg : decode cc pc = .ok (.if_icmp .ne off, 3)) (ht : (pc : Int) + off = (tgt : Int))
    (kt : a ≠ b → V κ cells slots ws tgt lv st) (kf : a = b → V κ cells slots ws (pc + 3) lv st) (ha : a < 2147483648 := by omega) (hb : b < 2147483648 := by omega) : V κ cells slots ws pc lv (.int (nI b) :: .int (nI a) :: st) :=
  V_icmp_ne x tgt hdg ht (fun h => kt (fun q => h ((nI_eq ha hb).mpr q))) (fun h => kf ((nI_eq ha hb).mp h))
theorem V_icmp_lt (x : Cx κ lc rm cc nL Ts own D cl tys) {a b : Int32} {off : Int} (tgt : Nat) (hdg : decode cc pc = .ok (.if_icmp .lt off, 3)) (ht : (pc : Int) + off = (tgt : Int))
    (kt : a < b → V κ cells slots ws tgt lv st) (kf : ¬ a < b → V κ cells slots ws (pc + 3) lv st) : V κ cells slots ws pc lv (.int b :: .int a :: st) := by
  obtain ⟨p, l, e, R, s, m, args, below, meth, c, Q, D', cl', A, nL'⟩ := κ
  obtain ⟨rfl, rfl, rfl, rfl, rfl, hx, hb, hml, hown, hts, hK, hNw, hA⟩ := x
  exact fun H locs ls hP hD hS hL => lv_icmp_lt hx hb hdg ht (fun h => kt h H locs ls hP hD hS hL) (fun h => kf h H locs ls hP hD hS hL)
theorem V_icmp_ltN (x : Cx κ lc rm cc nL Ts own D cl tys) {a b : Nat} {off : Int} (tgt : Nat) (hdg : decode cc pc = .ok (.if_icmp .lt off, 3)) (ht : (pc : Int) + off = (tgt : Int))
    (kt : a < b → V κ cells slots ws tgt lv st) (kf : b ≤ a → V κ cells slots ws (pc + 3) lv st) (ha : a < 2147483648 := by omega) (hb : b < 2147483648 := by omega) : V κ cells slots ws pc lv (.int (nI b) :: .int (nI a) :: st) :=
  V_icmp_lt x tgt hdg ht (fun h => kt ((nI_ltI ha hb).mp h)) (fun h => kf (Nat.not_lt.mp (fun q => h ((nI_ltI ha hb).mpr q))))
theorem V_icmp_ge (x : Cx κ lc rm cc nL Ts own D cl tys) {a b : Int32} {off : Int} (tgt : Nat) (hdg : decode cc pc = .ok (.if_icmp .ge off, 3)) (ht : (pc : Int) + off = (tgt : Int))
    (kt : b ≤ a → V κ cells slots ws tgt lv st) (kf : ¬ b ≤ a → V κ cells slots ws (pc + 3) lv st) : V κ cells slots ws pc lv (.int b :: .int a :: st) := by
  obtain ⟨p, l, e, R, s, m, args, below, meth, c, Q, D', cl', A, nL'⟩ := κ
  obtain ⟨rfl, rfl, rfl, rfl, rfl, hx, hb, hml, hown, hts, hK, hNw, hA⟩ := x
  exact fun H locs ls hP hD hS hL => lv_icmp_ge hx hb hdg ht (fun h => kt h H locs ls hP hD hS hL) (fun h => kf h H locs ls hP hD hS hL)
theorem V_icmp_geN (x : Cx κ lc rm cc nL Ts own D cl tys) {a b : Nat} {off : Int} (tgt : Nat) (hdg : decode cc pc = .ok (.if_icmp .ge off, 3)) (ht : (pc : Int) + off = (tgt : Int))
    (kt : b ≤ a → V κ cells slots ws tgt lv st) (kf : a < b → V κ cells slots ws (pc + 3) lv st) (ha : a < 2147483648 := by omega) (hb : b < 2147483648 := by omega) : V κ cells slots ws pc lv (.int (nI b) :: .int (nI a) :: st) :=
  V_icmp_ge x tgt hdg ht (fun h => kt ((nI_leI hb ha).mp h)) (fun h => kf (Nat.not_le.mp (fun q => h ((nI_leI hb ha).mpr q))))
theorem V_icmp_gt (x : Cx κ lc rm cc nL Ts own D cl tys) {a b : Int32} {off : Int} (tgt : Nat) (hdg : decode cc pc = .ok (.if_icmp .gt off, 3)) (ht : (pc : Int) + off = (tgt : Int))
    (kt : b < a → V κ cells slots ws tgt lv st) (kf : ¬ b < a → V κ cells slots ws (pc + 3) lv st) : V κ cells slots ws pc lv (.int b :: .int a :: st) := by
  obtain ⟨p, l, e, R, s, m, args, below, meth, c, Q, D', cl', A, nL'⟩ := κ
  obtain ⟨rfl, rfl, rfl, rfl, rfl, hx, hb, hml, hown, hts, hK, hNw, hA⟩ := x
  exact fun H locs ls hP hD hS hL => lv_icmp_gt hx hb hdg ht (fun h => kt h H locs ls hP hD hS hL) (fun h => kf h H locs ls hP hD hS hL)
theorem V_icmp_gtN (x : Cx κ lc rm cc nL Ts own D cl tys) {a b : Nat} {off : Int} (tgt : Nat) (hdg : decode cc pc = .ok (.if_icmp .gt off, 3)) (ht : (pc : Int) + off = (tgt : Int))
    (kt : b < a → V κ cells slots ws tgt lv st) (kf : a ≤ b → V κ cells slots ws (pc + 3) lv st) (ha : a < 2147483648 := by omega) (hb : b < 2147483648 := by omega) : V κ cells slots ws pc lv (.int (nI b) :: .int (nI a) :: st) :=
  V_icmp_gt x tgt hdg ht (fun h => kt ((nI_ltI hb ha).mp h)) (fun h => kf (Nat.not_lt.mp (fun q => h ((nI_ltI hb ha).mpr q))))
theorem V_icmp_le (x : Cx κ lc rm cc nL Ts own D cl tys) {a b : Int32} {off : Int} (tgt : Nat) (hdg : decode cc pc = .ok (.if_icmp .le off, 3)) (ht : (pc : Int) + off = (tgt : Int))
    (kt : a ≤ b → V κ cells slots ws tgt lv st) (kf : ¬ a ≤ b → V κ cells slots ws (pc + 3) lv st) : V κ cells slots ws pc lv (.int b :: .int a :: st) := by
  obtain ⟨p, l, e, R, s, m, args, below, meth, c, Q, D', cl', A, nL'⟩ := κ
  obtain ⟨rfl, rfl, rfl, rfl, rfl, hx, hb, hml, hown, hts, hK, hNw, hA⟩ := x
  exact fun H locs ls hP hD hS hL => lv_icmp_le hx hb hdg ht (fun h => kt h H locs ls hP hD hS hL) (fun h => kf h H locs ls hP hD hS hL)
theorem V_icmp_leN (x : Cx κ lc rm cc nL Ts own D cl tys) {a b : Nat} {off : Int} (tgt : Nat) (hdg : decode cc pc = .ok (.if_icmp .le off, 3)) (ht : (pc : Int) + off = (tgt : Int))
    (kt : a ≤ b → V κ cells slots ws tgt lv st) (kf : b < a → V κ cells slots ws (pc + 3) lv st) (ha : a < 2147483648 := by omega) (hb : b < 2147483648 := by omega) : V κ cells slots ws pc lv (.int (nI b) :: .int (nI a) :: st) :=
  V_icmp_le x tgt hdg ht (fun h => kt ((nI_leI ha hb).mp h)) (fun h => kf (Nat.not_le.mp (fun q => h ((nI_leI ha hb).mpr q))))
theorem V_icmp_eqO (x : Cx κ lc rm cc nL Ts own D cl tys) {o : Option Nat} {off : Int} (tgt : Nat) (hdg : decode cc pc = .ok (.if_icmp .eq off, 3)) (ht : (pc : Int) + off = (tgt : Int)) (ho : ∀ n, o = some n → n < 2147483648)
    (kt : o = none → V κ cells slots ws tgt lv st) (kf : ∀ n, o = some n → V κ cells slots ws (pc + 3) lv st) : V κ cells slots ws pc lv (.int (-1) :: .int (oN o) :: st) :=
  V_icmp_eq x tgt hdg ht (fun h => kt ((oN_m1 ho).mp h)) (fun h => by
    cases o with
    | none => exact absurd rfl h
    | some n => exact kf n rfl)
theorem V_icmp_neO (x : Cx κ lc rm cc nL Ts own D cl tys) {o : Option Nat} {off : Int} (tgt : Nat) (hdg : decode cc pc = .ok (.if_icmp .ne off, 3)) (ht : (pc : Int) + off = (tgt : Int)) (ho : ∀ n, o = some n → n < 2147483648)
    (kt : ∀ n, o = some n → V κ cells slots ws tgt lv st) (kf : o = none → V κ cells slots ws (pc + 3) lv st) : V κ cells slots ws pc lv (.int (-1) :: .int (oN o) :: st) :=
  V_icmp_ne x tgt hdg ht (fun h => by
    cases o with
    | none => exact absurd rfl h
    | some n => exact kt n rfl) (fun h => kf ((oN_m1 ho).mp h))
theorem V_if_eqB (x : Cx κ lc rm cc nL Ts own D cl tys) {b : Bool} {off : Int} (tgt : Nat) (hdg : decode cc pc = .ok (.ifCond .eq off, 3)) (ht : (pc : Int) + off = (tgt : Int))
    (kt : b = false → V κ cells slots ws tgt lv st) (kf : b = true → V κ cells slots ws (pc + 3) lv st) : V κ cells slots ws pc lv (.int (bI b) :: st) :=
  V_if_eq x tgt hdg ht (fun h => kt (bI_0.mp h)) (fun h => kf (bI_1.mp h))
theorem V_if_neB (x : Cx κ lc rm cc nL Ts own D cl tys) {b : Bool} {off : Int} (tgt : Nat) (hdg : decode cc pc = .ok (.ifCond .ne off, 3)) (ht : (pc : Int) + off = (tgt : Int))
    (kt : b = true → V κ cells slots ws tgt lv st) (kf : b = false → V κ cells slots ws (pc + 3) lv st) : V κ cells slots ws pc lv (.int (bI b) :: st) :=
  V_if_ne x tgt hdg ht (fun h => kt (bI_1.mp h)) (fun h => kf (bI_0.mp h))
theorem V_goto (x : Cx κ lc rm cc nL Ts own D cl tys) {off : Int} (tgt : Nat) (hdg : decode cc pc = .ok (.goto off, 3)) (ht : (pc : Int) + off = (tgt : Int))
    (k : V κ cells slots ws tgt lv st) : V κ cells slots ws pc lv st := by
  obtain ⟨p, l, e, R, s, m, args, below, meth, c, Q, D', cl', A, nL'⟩ := κ
  obtain ⟨rfl, rfl, rfl, rfl, rfl, hx, hb, hml, hown, hts, hK, hNw, hA⟩ := x
  exact fun H locs ls hP hD hS hL => lv_goto hx hb hdg ht (k H locs ls hP hD hS hL)
theorem V_get (x : Cx κ lc rm cc nL Ts own D cl tys) (q0 ci j : Nat) {C : String} {T : u_T} {N index a : Nat} {fs : List Value} {v : Value} (hin : ∀ w ∈ u_ws C T N, w ∈ Ts) (he : ws[q0]? = some (a, .inr (ci, fs))) (hc : cl[ci]? = some (C, T, N)) (hj : j < N) (hlink : Cond.fieldLink own index (T j).1 (T j).2.1 (T j).2.2.1 ∈ Ts) (hv : fs[j]? = some v) (hdg : decode cc pc = .ok (.getfield index, 3))
    (k : V κ cells slots ws (pc + 3) lv (v :: st)) : V κ cells slots ws pc lv (.ref a :: st) := by
  obtain ⟨p, l, e, R, s, m, args, below, meth, c, Q, D', cl', A, nL'⟩ := κ
  obtain ⟨rfl, rfl, rfl, rfl, rfl, hx, hb, hml, hown, hts, hK, hNw, hA⟩ := x
  exact fun H locs ls hP hD hS hL => va_get hx hb hts hin hown hK hP q0 he hc j hj (hts _ hlink) (fun _ h => h) hv hdg (k H locs ls hP hD hS hL)
theorem V_put (x : Cx κ lc rm cc nL Ts own D cl tys) (q0 ci j : Nat) {C : String} {T : u_T} {N index a : Nat} {fs : List Value} {v : Value} {ty : FieldType} (ws' : va_W) (hin : ∀ w ∈ u_ws C T N, w ∈ Ts) (ty0 : Nat → FieldType) (hty : ∀ k, k < N → parseFieldDescriptor (T k).2.2.1 = some (ty0 k)) (hnm : ∀ a, a < N → ∀ b, b < N → a ≠ b → (T a).2.1 ≠ (T b).2.1) (he : ws[q0]? = some (a, .inr (ci, fs))) (hc : cl[ci]? = some (C, T, N)) (hj : j < N) (hlink : Cond.fieldLink own index (T j).1 (T j).2.1 (T j).2.2.1 ∈ Ts) (hfin : (T j).2.2.2 = false) (hd : parseFieldDescriptor (T j).2.2.1 = some ty) (hn : narrow ty v = v) (hfit : fits ty v = true) (hl : j < fs.length) (hw : ws.set q0 (a, .inr (ci, fs.set j v)) = ws') (hdg : decode cc pc = .ok (.putfield index, 3))
    (k : V κ cells slots ws' (pc + 3) lv st) : V κ cells slots ws pc lv (v :: .ref a :: st) := by
  obtain ⟨p, l, e, R, s, m, args, below, meth, c, Q, D', cl', A, nL'⟩ := κ
  obtain ⟨rfl, rfl, rfl, rfl, rfl, hx, hb, hml, hown, hts, hK, hNw, hA⟩ := x
  subst hw
  exact fun H locs ls hP hD hS hL => va_put hx hb hts hin ty0 hty hnm hown hK hP hD hS q0 he hc j hj (hts _ hlink) (fun _ h => h) hfin hd hn hfit hl hdg (fun H1 locs1 hP1 hD1 hS1 => k H1 locs1 ls hP1 hD1 hS1 hL)
theorem V_iald (x : Cx κ lc rm cc nL Ts own D cl tys) (q0 t0 : Nat) {a : Nat} {cA : ClassId} {n j : Nat} {f : Nat → Int32} (ha : ws[q0]? = some (a, .inl (cA, n, .inl f))) (ht : tys[t0]? = some (cA, .int)) (hdg : decode cc pc = .ok (.iaload, 1)) (hn : j < n) (hn2 : n < 2147483648)
    (k : V κ cells slots ws (pc + 1) lv (.int (f j) :: st)) : V κ cells slots ws pc lv (.int (nI j) :: .ref a :: st) := by
  obtain ⟨p, l, e, R, s, m, args, below, meth, c, Q, D', cl', A, nL'⟩ := κ
  obtain ⟨rfl, rfl, rfl, rfl, rfl, hx, hb, hml, hown, hts, hK, hNw, hA⟩ := x
  exact fun H locs ls hP hD hS hL => va_iald hx hb hK hP q0 t0 ha ht (vp_in_nI hn hn2) hdg (by rw [nI_clamp (Nat.lt_trans hn hn2)]; exact k H locs ls hP hD hS hL)
theorem V_zald (x : Cx κ lc rm cc nL Ts own D cl tys) (q0 t0 : Nat) {a : Nat} {cA : ClassId} {n j : Nat} {f : Nat → Int32} (ha : ws[q0]? = some (a, .inl (cA, n, .inl f))) (ht : tys[t0]? = some (cA, .boolean)) (hdg : decode cc pc = .ok (.baload, 1)) (hn : j < n) (hn2 : n < 2147483648)
    (k : V κ cells slots ws (pc + 1) lv (.int (f j) :: st)) : V κ cells slots ws pc lv (.int (nI j) :: .ref a :: st) := by
  obtain ⟨p, l, e, R, s, m, args, below, meth, c, Q, D', cl', A, nL'⟩ := κ
  obtain ⟨rfl, rfl, rfl, rfl, rfl, hx, hb, hml, hown, hts, hK, hNw, hA⟩ := x
  exact fun H locs ls hP hD hS hL => va_zald hx hb hK hP q0 t0 ha ht (vp_in_nI hn hn2) hdg (by rw [nI_clamp (Nat.lt_trans hn hn2)]; exact k H locs ls hP hD hS hL)
theorem V_cald (x : Cx κ lc rm cc nL Ts own D cl tys) (q0 t0 : Nat) {a : Nat} {cA : ClassId} {n j : Nat} {f : Nat → Int32} (ha : ws[q0]? = some (a, .inl (cA, n, .inl f))) (ht : tys[t0]? = some (cA, .char)) (hdg : decode cc pc = .ok (.caload, 1)) (hn : j < n) (hn2 : n < 2147483648)
    (k : V κ cells slots ws (pc + 1) lv (.int (f j) :: st)) : V κ cells slots ws pc lv (.int (nI j) :: .ref a :: st) := by
  obtain ⟨p, l, e, R, s, m, args, below, meth, c, Q, D', cl', A, nL'⟩ := κ
  obtain ⟨rfl, rfl, rfl, rfl, rfl, hx, hb, hml, hown, hts, hK, hNw, hA⟩ := x
  exact fun H locs ls hP hD hS hL => va_cald hx hb hK hP q0 t0 ha ht (vp_in_nI hn hn2) hdg (by rw [nI_clamp (Nat.lt_trans hn hn2)]; exact k H locs ls hP hD hS hL)
theorem V_lald (x : Cx κ lc rm cc nL Ts own D cl tys) (q0 t0 : Nat) {a : Nat} {cA : ClassId} {n j : Nat} {f : Nat → Int64} (ha : ws[q0]? = some (a, .inl (cA, n, .inr (.inl f)))) (ht : tys[t0]? = some (cA, .long)) (hdg : decode cc pc = .ok (.laload, 1)) (hn : j < n) (hn2 : n < 2147483648)
    (k : V κ cells slots ws (pc + 1) lv (.long (f j) :: st)) : V κ cells slots ws pc lv (.int (nI j) :: .ref a :: st) := by
  obtain ⟨p, l, e, R, s, m, args, below, meth, c, Q, D', cl', A, nL'⟩ := κ
  obtain ⟨rfl, rfl, rfl, rfl, rfl, hx, hb, hml, hown, hts, hK, hNw, hA⟩ := x
  exact fun H locs ls hP hD hS hL => va_lald hx hb hK hP q0 t0 ha ht (vp_in_nI hn hn2) hdg (by rw [nI_clamp (Nat.lt_trans hn hn2)]; exact k H locs ls hP hD hS hL)
theorem upd_G {α : Type} (g : α → Int32) (f : Nat → α) (k : Nat) (v : α) : upd (fun i => g (f i)) k (g v) = fun i => g (va_up f k v i) := by
  funext i
  unfold upd va_up
  by_cases h : i = k
  · simp [h]
  · simp [h]
theorem updL_up (f : Nat → Int64) (k : Nat) (v : Int64) : vp_updL f k v = va_up f k v := rfl
theorem V_iast (x : Cx κ lc rm cc nL Ts own D cl tys) (q0 t0 : Nat) {a : Nat} {cA : ClassId} {n j : Nat} {α : Type} (g : α → Int32) (f : Nat → α) (v : α) (ws' : va_W) (ha : ws[q0]? = some (a, .inl (cA, n, .inl (fun i => g (f i))))) (ht : tys[t0]? = some (cA, .int)) (hdg : decode cc pc = .ok (.iastore, 1)) (hn : j < n) (hn2 : n < 2147483648) (hw : ws.set q0 (a, .inl (cA, n, .inl (fun i => g (va_up f j v i)))) = ws')
    (k : V κ cells slots ws' (pc + 1) lv st) : V κ cells slots ws pc lv (.int (g v) :: .int (nI j) :: .ref a :: st) := by
  obtain ⟨p, l, e, R, s, m, args, below, meth, c, Q, D', cl', A, nL'⟩ := κ
  obtain ⟨rfl, rfl, rfl, rfl, rfl, hx, hb, hml, hown, hts, hK, hNw, hA⟩ := x
  subst hw
  exact fun H locs ls hP hD hS hL => va_iast hx hb hK hP hD hS q0 t0 ha ht (vp_in_nI hn hn2) hdg (by
    rw [nI_clamp (Nat.lt_trans hn hn2), upd_G]
    exact fun H1 locs1 hP1 hD1 hS1 => k H1 locs1 ls hP1 hD1 hS1 hL)
theorem nar_bI (b : Bool) : vp_nar .boolean (bI b) = bI b := by cases b <;> decide +kernel
theorem nar_ch {n : Nat} (h : n < 65536) : vp_nar .char (nI n) = nI n := by
  have h1 := (pk_charN h).1
  unfold vp_nar
  rw [h1]
theorem V_zast (x : Cx κ lc rm cc nL Ts own D cl tys) (q0 t0 : Nat) {a : Nat} {cA : ClassId} {n j : Nat} (f : Nat → Bool) (v : Bool) (ws' : va_W) (ha : ws[q0]? = some (a, .inl (cA, n, .inl (fun i => bI (f i))))) (ht : tys[t0]? = some (cA, .boolean)) (hdg : decode cc pc = .ok (.bastore, 1)) (hn : j < n) (hn2 : n < 2147483648) (hw : ws.set q0 (a, .inl (cA, n, .inl (fun i => bI (va_up f j v i)))) = ws')
    (k : V κ cells slots ws' (pc + 1) lv st) : V κ cells slots ws pc lv (.int (bI v) :: .int (nI j) :: .ref a :: st) := by
  obtain ⟨p, l, e, R, s, m, args, below, meth, c, Q, D', cl', A, nL'⟩ := κ
  obtain ⟨rfl, rfl, rfl, rfl, rfl, hx, hb, hml, hown, hts, hK, hNw, hA⟩ := x
  subst hw
  exact fun H locs ls hP hD hS hL => va_zast hx hb hK hP hD hS q0 t0 ha ht (vp_in_nI hn hn2) hdg (by
    rw [nI_clamp (Nat.lt_trans hn hn2), nar_bI, upd_G]
    exact fun H1 locs1 hP1 hD1 hS1 => k H1 locs1 ls hP1 hD1 hS1 hL)
theorem V_cast (x : Cx κ lc rm cc nL Ts own D cl tys) (q0 t0 : Nat) {a : Nat} {cA : ClassId} {n j : Nat} (f : Nat → Nat) (v : Nat) (ws' : va_W) (ha : ws[q0]? = some (a, .inl (cA, n, .inl (fun i => nI (f i))))) (ht : tys[t0]? = some (cA, .char)) (hdg : decode cc pc = .ok (.castore, 1)) (hn : j < n) (hn2 : n < 2147483648) (hv : v < 65536) (hw : ws.set q0 (a, .inl (cA, n, .inl (fun i => nI (va_up f j v i)))) = ws')
    (k : V κ cells slots ws' (pc + 1) lv st) : V κ cells slots ws pc lv (.int (nI v) :: .int (nI j) :: .ref a :: st) := by
  obtain ⟨p, l, e, R, s, m, args, below, meth, c, Q, D', cl', A, nL'⟩ := κ
  obtain ⟨rfl, rfl, rfl, rfl, rfl, hx, hb, hml, hown, hts, hK, hNw, hA⟩ := x
  subst hw
  exact fun H locs ls hP hD hS hL => va_cast hx hb hK hP hD hS q0 t0 ha ht (vp_in_nI hn hn2) hdg (by
    rw [nI_clamp (Nat.lt_trans hn hn2), nar_ch hv, upd_G]
    exact fun H1 locs1 hP1 hD1 hS1 => k H1 locs1 ls hP1 hD1 hS1 hL)
theorem V_last (x : Cx κ lc rm cc nL Ts own D cl tys) (q0 t0 : Nat) {a : Nat} {cA : ClassId} {n j : Nat} (f : Nat → Int64) (v : Int64) (ws' : va_W) (ha : ws[q0]? = some (a, .inl (cA, n, .inr (.inl f)))) (ht : tys[t0]? = some (cA, .long)) (hdg : decode cc pc = .ok (.lastore, 1)) (hn : j < n) (hn2 : n < 2147483648) (hw : ws.set q0 (a, .inl (cA, n, .inr (.inl (va_up f j v)))) = ws')
    (k : V κ cells slots ws' (pc + 1) lv st) : V κ cells slots ws pc lv (.long v :: .int (nI j) :: .ref a :: st) := by
  obtain ⟨p, l, e, R, s, m, args, below, meth, c, Q, D', cl', A, nL'⟩ := κ
  obtain ⟨rfl, rfl, rfl, rfl, rfl, hx, hb, hml, hown, hts, hK, hNw, hA⟩ := x
  subst hw
  exact fun H locs ls hP hD hS hL => va_last hx hb hK hP hD hS q0 t0 ha ht (vp_in_nI hn hn2) hdg (by
    rw [nI_clamp (Nat.lt_trans hn hn2), updL_up]
    exact fun H1 locs1 hP1 hD1 hS1 => k H1 locs1 ls hP1 hD1 hS1 hL)
theorem V_alen (x : Cx κ lc rm cc nL Ts own D cl tys) (q0 t0 : Nat) {a : Nat} {cA : ClassId} {y : vp_A} {ty : FieldType} (ha : ws[q0]? = some (a, .inl (cA, y))) (ht : tys[t0]? = some (cA, ty)) (hdg : decode cc pc = .ok (.arraylength, 1))
    (k : V κ cells slots ws (pc + 1) lv (.int (nI y.1) :: st)) : V κ cells slots ws pc lv (.ref a :: st) := by
  obtain ⟨p, l, e, R, s, m, args, below, meth, c, Q, D', cl', A, nL'⟩ := κ
  obtain ⟨rfl, rfl, rfl, rfl, rfl, hx, hb, hml, hown, hts, hK, hNw, hA⟩ := x
  exact fun H locs ls hP hD hS hL => va_alen hx hb hK hP q0 t0 ha ht (v := nI y.1) rfl hdg (k H locs ls hP hD hS hL)
theorem iinc_1 (n : Nat) : nI n + Int32.ofInt 1 = nI (n + 1) := by
  rw [show Int32.ofInt 1 = 1 by decide]
  exact nI_1 n
theorem iinc_m1 {n : Nat} (h : 0 < n) : nI n + Int32.ofInt (-1) = nI (n - 1) := by
  rw [show Int32.ofInt (-1) = -1 by decide]
  exact sb_m1 h
theorem nar_bI2 (b : Bool) : narrow .boolean (.int (bI b)) = .int (bI b) := by cases b <;> rfl
theorem nar_ch2 {n : Nat} (h : n < 65536) : narrow .char (.int (nI n)) = .int (nI n) := (pk_charN h).1
theorem i2c_N {n : Nat} (h : n < 65536) : ((nI n).toUInt32 % 65536).toInt32 = nI n := by
  rw [pk_char, pk_tn (by omega), Nat.mod_eq_of_lt h]
abbrev tys4 (cI cZ cC cJ : ClassId) : List (ClassId × FieldType) := [(cI, .int), (cZ, .boolean), (cC, .char), (cJ, .long)]
theorem minI {a b : Nat} (ha : a < 2147483648) (hb : b < 2147483648) : (if nI b < nI a then nI b else nI a) = nI (min a b) := by
  by_cases h : b < a
  · rw [if_pos ((nI_ltI hb ha).mpr h), Nat.min_eq_right (Nat.le_of_lt h)]
  · rw [if_neg (fun q => h ((nI_ltI hb ha).mp q)), Nat.min_eq_left (Nat.not_lt.mp h)]
theorem V_min (x : Cx κ lc rm cc nL Ts own D cl tys) {a b index : Nat} (hlink : Cond.methodLink own index Lib.Math.min.name ∈ Ts) (hstat : Cond.static Lib.Math.min.name ∈ Ts) (hini : Cond.initialized "java/lang/Math" ∈ Ts) (hcode : Cond.code Lib.Math.min.name Lib.Math.min.code 2 (some .int) ∈ Ts) (hdg : decode cc pc = .ok (.invokestatic index, 3)) (hr : 1 ≤ rm.frames ∧ (st.map fun v => v.category).sum + 13 ≤ rm.locals ∧ cells ≤ rm.cells ∧ slots ≤ rm.slots) (ha : a < 2147483648) (hb' : b < 2147483648)
    (k : V κ cells slots ws (pc + 3) lv (.int (nI (min a b)) :: st)) : V κ cells slots ws pc lv (.int (nI b) :: .int (nI a) :: st) := by
  obtain ⟨p, l, e, R, s, m, args, below, meth, c, Q, D', cl', A, nL'⟩ := κ
  obtain ⟨rfl, rfl, rfl, rfl, rfl, hx, hb, hml, hown, hts, hK, hNw, hA⟩ := x
  rw [← minI ha hb'] at k
  exact fun H locs ls hP hD hS hL => va_mmin hx hb (hml.trans hL.1.symm) hown (hts _ hlink) (hts _ hstat) (hts _ hini) (hts _ hcode) hr.1 hr.2.1 hr.2.2.1 hr.2.2.2 hdg (k H locs ls hP hD hS hL)
end VR
