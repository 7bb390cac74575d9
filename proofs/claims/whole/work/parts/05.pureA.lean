/-! What the automaton's methods do -/
def prd : Nat → Option Nat
  | 0 => none
  | k + 1 => some k
theorem prd_some {k z : Nat} (h : prd k = some z) : k = z + 1 := by
  cases k with
  | zero => cases h
  | succ k => cases h; rfl
theorem prd_none {k : Nat} (h : prd k = none) : k = 0 := by
  cases k with
  | zero => rfl
  | succ k => cases h
theorem prd_sub (k : Nat) : nI k - nI 1 = oN (prd k) := by
  cases k with
  | zero => decide +kernel
  | succ k => exact nI_pred k
theorem prd_inc (k : Nat) : nI k + Int32.ofInt (-1) = oN (prd k) := by
  cases k with
  | zero => decide +kernel
  | succ k => exact iinc_m1 (by omega)
theorem oN_inj {a b : Option Nat} (ha : ∀ z, a = some z → z < 2147483648) (hb : ∀ z, b = some z → z < 2147483648) (h : oN a = oN b) : a = b := by
  cases a with
  | none => exact ((oN_m1 hb).mp h.symm).symm
  | some z =>
    cases b with
    | none => exact (oN_m1 ha).mp h
    | some w => rw [(nI_eq (ha z rfl) (hb w rfl)).mp h]
theorem bI_inj {a b : Bool} (h : bI a = bI b) : a = b := by
  cases a <;> cases b <;> first | rfl | exact absurd h (by decide)
section VO
variable {κ : Ku} {lc : Launch} {rm : Room} {cc : ByteArray} {nL : Nat} {Ts : List Cond} {own : String} {D : va_G} {cl : List vw_C} {tys : List (ClassId × FieldType)}
variable {cells slots : Nat} {ws : va_W} {pc : Nat} {lv : List (Nat × Value)} {st : List Value}
theorem V_if_ltO (x : Cx κ lc rm cc nL Ts own D cl tys) {o : Option Nat} {off : Int} (tgt : Nat) (hdg : decode cc pc = .ok (.ifCond .lt off, 3)) (ht : (pc : Int) + off = (tgt : Int)) (ho : ∀ n, o = some n → n < 2147483648)
    (kt : o = none → V κ cells slots ws tgt lv st) (kf : ∀ n, o = some n → V κ cells slots ws (pc + 3) lv st) : V κ cells slots ws pc lv (.int (oN o) :: st) :=
  V_if_lt x tgt hdg ht (fun h => by
    cases o with
    | none => exact kt rfl
    | some n => exact absurd h (nI_pos (ho n rfl))) (fun h => by
    cases o with
    | none => exact absurd (by decide) h
    | some n => exact kf n rfl)
theorem V_icmp_neOO (x : Cx κ lc rm cc nL Ts own D cl tys) {a b : Option Nat} {off : Int} (tgt : Nat) (hdg : decode cc pc = .ok (.if_icmp .ne off, 3)) (ht : (pc : Int) + off = (tgt : Int)) (ha : ∀ n, a = some n → n < 2147483648) (hb : ∀ n, b = some n → n < 2147483648)
    (kt : a ≠ b → V κ cells slots ws tgt lv st) (kf : a = b → V κ cells slots ws (pc + 3) lv st) : V κ cells slots ws pc lv (.int (oN b) :: .int (oN a) :: st) :=
  V_icmp_ne x tgt hdg ht (fun h => kt (fun e => h (by rw [e]))) (fun h => kf (oN_inj ha hb h))
theorem V_icmp_eqOO (x : Cx κ lc rm cc nL Ts own D cl tys) {a b : Option Nat} {off : Int} (tgt : Nat) (hdg : decode cc pc = .ok (.if_icmp .eq off, 3)) (ht : (pc : Int) + off = (tgt : Int)) (ha : ∀ n, a = some n → n < 2147483648) (hb : ∀ n, b = some n → n < 2147483648)
    (kt : a = b → V κ cells slots ws tgt lv st) (kf : a ≠ b → V κ cells slots ws (pc + 3) lv st) : V κ cells slots ws pc lv (.int (oN b) :: .int (oN a) :: st) :=
  V_icmp_eq x tgt hdg ht (fun h => kt (oN_inj ha hb h)) (fun h => kf (fun e => h (by rw [e])))
theorem V_icmp_neBB (x : Cx κ lc rm cc nL Ts own D cl tys) {a b : Bool} {off : Int} (tgt : Nat) (hdg : decode cc pc = .ok (.if_icmp .ne off, 3)) (ht : (pc : Int) + off = (tgt : Int))
    (kt : a ≠ b → V κ cells slots ws tgt lv st) (kf : a = b → V κ cells slots ws (pc + 3) lv st) : V κ cells slots ws pc lv (.int (bI b) :: .int (bI a) :: st) :=
  V_icmp_ne x tgt hdg ht (fun h => kt (fun e => h (by rw [e]))) (fun h => kf (bI_inj h))
theorem V_icmp_eqBB (x : Cx κ lc rm cc nL Ts own D cl tys) {a b : Bool} {off : Int} (tgt : Nat) (hdg : decode cc pc = .ok (.if_icmp .eq off, 3)) (ht : (pc : Int) + off = (tgt : Int))
    (kt : a = b → V κ cells slots ws tgt lv st) (kf : a ≠ b → V κ cells slots ws (pc + 3) lv st) : V κ cells slots ws pc lv (.int (bI b) :: .int (bI a) :: st) :=
  V_icmp_eq x tgt hdg ht (fun h => kt (bI_inj h)) (fun h => kf (fun e => h (by rw [e])))
theorem cpy_G {α : Type} (g : α → Int32) (f h : Nat → α) (a b n : Nat) : va_cpy (fun i => g (f i)) (fun i => g (h i)) a b n = fun i => g (va_cpy f h a b n i) := by
  funext i
  unfold va_cpy
  split <;> rfl
theorem V_copy (x : Cx κ lc rm cc nL Ts own D cl tys) (q0 q1 : Nat) {index a0 a1 n0 n1 : Nat} {cI : ClassId} {α : Type} (g : α → Int32) (f h : Nat → α) (sp dp n : Nat) (ws' : va_W) (hlink : Cond.methodLink own index arraycopyName ∈ Ts) (hnat : Cond.native arraycopyName ∈ Ts) (hstat : Cond.static arraycopyName ∈ Ts) (hini : Cond.initialized "java/lang/System" ∈ Ts)
    (ha0 : ws[q0]? = some (a0, .inl (cI, n0, .inl (fun i => g (f i))))) (ha1 : ws[q1]? = some (a1, .inl (cI, n1, .inl (fun i => g (h i))))) (ht : tys[0]? = some (cI, .int)) (h1 : sp + n ≤ n0) (h2 : dp + n ≤ n1) (hn0 : n0 < 2147483648) (hn1 : n1 < 2147483648)
    (hfr : 1 ≤ rm.frames ∧ (st.map fun v => v.category).sum + (nativeFrameWords "java/lang/System" "arraycopy" 5 + 11) ≤ rm.locals) (hdg : decode cc pc = .ok (.invokestatic index, 3)) (hw : ws.set q1 (a1, .inl (cI, n1, .inl (fun i => g (va_cpy f h sp dp n i)))) = ws')
    (k : V κ cells slots ws' (pc + 3) lv st) : V κ cells slots ws pc lv (.int (nI n) :: .int (nI dp) :: .ref a1 :: .int (nI sp) :: .ref a0 :: st) := by
  obtain ⟨p, l, e, R, s, m, args, below, meth, c, Q, D', cl', A, nL'⟩ := κ
  obtain ⟨rfl, rfl, rfl, rfl, rfl, hx, hb, hml, hown, hts, hK, hNw, hA⟩ := x
  subst hw
  have c1 : (nI sp).toNatClampNeg = sp := nI_clamp (by omega)
  have c2 : (nI dp).toNatClampNeg = dp := nI_clamp (by omega)
  have c3 : (nI n).toNatClampNeg = n := nI_clamp (by omega)
  intro H locs ls hP hD hS hL
  refine va_copyi hx hb (hml.trans hL.1.symm) hown (hts _ hlink) (hts _ hnat) (hts _ hstat) (hts _ hini) hK hP hD hS q0 q1 0 0 ha0 ha1 ht ht rfl (nI_pos (by omega)) (nI_pos (by omega)) (nI_pos (by omega)) (by rw [c1, c3]; exact h1) (by rw [c2, c3]; exact h2) (fun i _ => rfl) hfr.1 hfr.2 hdg ?_
  rw [c1, c2, c3, cpy_G]
  exact fun H1 locs1 hP1 hD1 hS1 => k H1 locs1 ls hP1 hD1 hS1 hL
end VO
def cnz (mb : Nat → Nat) : Nat → Nat
  | 0 => 0
  | k + 1 => if mb k = 0 then cnz mb k else cnz mb k + 1
theorem cnz_le (mb : Nat → Nat) : ∀ k, cnz mb k ≤ k
  | 0 => Nat.le_refl _
  | k + 1 => by
    have := cnz_le mb k
    unfold cnz
    split <;> omega
def cef (tg : Nat → Option Nat) (s : Nat) : Nat → Nat
  | 0 => 0
  | k + 1 => match tg (s * 8 + k) with
    | none => cef tg s k
    | some _ => cef tg s k + 1
def ced (mb : Nat → Nat) (tg : Nat → Option Nat) : Nat → Nat
  | 0 => 0
  | k + 1 => if mb k = 0 then ced mb tg k else ced mb tg k + cef tg k 8
/-- release: one less for each prefix of the path -/
def rel (so pa mb : Nat → Nat) : Nat → Nat → Nat
  | 0 => mb
  | k + 1 => va_up (rel so pa mb k) (so (pa k)) (rel so pa mb k (so (pa k)) - 1)
/-- join -/
def jw (ch : Nat → Option Nat) (so : Nat → Nat) (p : Nat) (wn : Nat → Option Nat) : Nat → Nat → Option Nat
  | 0 => wn
  | x + 1 => va_up (jw ch so p wn x) x ((ch (p * 8 + x)).map so)
def hwt (tg wn : Nat → Option Nat) (s : Nat) : Nat → Nat → Bool
  | 0, _ => true
  | f + 1, x => if tg (s * 8 + x) = wn x then hwt tg wn s f (x + 1) else false
def wst (mb : Nat → Nat) (ac : Nat → Bool) (tg wn : Nat → Option Nat) (b : Bool) : Nat → Nat → Option Nat
  | 0, _ => none
  | f + 1, s => if mb s ≠ 0 ∧ ac s = b ∧ hwt tg wn s 8 0 = true then some s else wst mb ac tg wn b f (s + 1)
theorem wst_lt {mb : Nat → Nat} {ac : Nat → Bool} {tg wn : Nat → Option Nat} {b : Bool} : ∀ {f s z : Nat}, wst mb ac tg wn b f s = some z → z < s + f
  | 0, _, _, h => by cases h
  | f + 1, s, z, h => by
    unfold wst at h
    split at h
    · cases h; omega
    · have := wst_lt h; omega
theorem wst_yes {mb : Nat → Nat} {ac : Nat → Bool} {tg wn : Nat → Option Nat} {b : Bool} {f s : Nat} (h : mb s ≠ 0 ∧ ac s = b ∧ hwt tg wn s 8 0 = true) : wst mb ac tg wn b (f + 1) s = some s := if_pos h
theorem wst_no {mb : Nat → Nat} {ac : Nat → Bool} {tg wn : Nat → Option Nat} {b : Bool} {f s : Nat} (h : ¬ (mb s ≠ 0 ∧ ac s = b ∧ hwt tg wn s 8 0 = true)) : wst mb ac tg wn b (f + 1) s = wst mb ac tg wn b f (s + 1) := if_neg h
/-- states, members, accepting, targets, wanted -/
abbrev ast := (Nat → Nat) × (Nat → Nat) × (Nat → Bool) × (Nat → Option Nat) × (Nat → Option Nat)
def jnS (ch : Nat → Option Nat) (wh : Nat → Bool) (p : Nat) (s : ast) : ast := match s with
  | (so, mb, ac, tg, wn) => match wst mb ac tg (jw ch so p wn 8) (wh p) 211 0 with
    | some z => (va_up so p z, va_up mb z (mb z + 1), ac, tg, jw ch so p wn 8)
    | none => (va_up so p (fcl mb 210 0), va_up mb (fcl mb 210 0) (mb (fcl mb 210 0) + 1), va_up ac (fcl mb 210 0) (wh p), va_cpy (jw ch so p wn 8) tg 0 (fcl mb 210 0 * 8) 8, jw ch so p wn 8)
/-- receive: the path's last k places, the last first -/
def rcv (ch : Nat → Option Nat) (wh : Nat → Bool) (pa : Nat → Nat) (n : Nat) (s : ast) : Nat → ast
  | 0 => s
  | k + 1 => jnS ch wh (pa (n - (k + 1))) (rcv ch wh pa n s k)
theorem trc_le (ch : Nat → Option Nat) (tx : Nat → Nat) (n : Nat) : ∀ k, trc ch tx n k ≤ k
  | 0 => Nat.le_refl _
  | k + 1 => by
    have := trc_le ch tx n k
    unfold trc
    split <;> omega
theorem rg_map {wn : Nat → Option Nat} {so : Nat → Nat} {k : Nat} {o : Option Nat} (h : rg wn) (hs : ∀ i, so i < 211) : rg (va_up wn k (o.map so)) := by
  intro i j hj
  unfold va_up at hj
  split at hj
  · cases o with
    | none => cases hj
    | some z => cases hj; exact hs z
  · exact h i j hj
theorem jw_rg {ch : Nat → Option Nat} {so : Nat → Nat} {p : Nat} {wn : Nat → Option Nat} (h : rg wn) (hs : ∀ i, so i < 211) : ∀ k, rg (jw ch so p wn k)
  | 0 => h
  | k + 1 => rg_map (jw_rg h hs k) hs
theorem fcl_le0 (hf : Nat → Nat) : ∀ (f c : Nat), c ≤ 210 → fcl hf f c ≤ 210
  | 0, _, h => h
  | f + 1, c, h => by
    by_cases q : c < 210 ∧ hf c ≠ 0
    · rw [fcl_next q]; exact fcl_le0 hf f (c + 1) (by omega)
    · rw [fcl_end q]; exact h
theorem rg_cpy {f g : Nat → Option Nat} {a b n : Nat} (hf : rg f) (hg : rg g) : rg (va_cpy f g a b n) := by
  intro i j hj
  unfold va_cpy at hj
  split at hj
  · exact hf _ _ hj
  · exact hg _ _ hj
theorem jnS_ok {ch : Nat → Option Nat} {wh : Nat → Bool} {p b : Nat} {so mb : Nat → Nat} {ac : Nat → Bool} {tg wn : Nat → Option Nat} (hs : ∀ i, so i < 211) (ht : rg tg) (hw : rg wn) (hm : ∀ i, mb i ≤ b) :
    (∀ i, (jnS ch wh p (so, mb, ac, tg, wn)).1 i < 211) ∧ rg (jnS ch wh p (so, mb, ac, tg, wn)).2.2.2.1 ∧ rg (jnS ch wh p (so, mb, ac, tg, wn)).2.2.2.2 ∧ ∀ i, (jnS ch wh p (so, mb, ac, tg, wn)).2.1 i ≤ b + 1 := by
  have hj := jw_rg (ch := ch) (p := p) hw hs 8
  cases hz : wst mb ac tg (jw ch so p wn 8) (wh p) 211 0 with
  | none =>
    have h2 := fcl_le0 mb 210 0 (by omega)
    rw [show jnS ch wh p (so, mb, ac, tg, wn) = (va_up so p (fcl mb 210 0), va_up mb (fcl mb 210 0) (mb (fcl mb 210 0) + 1), va_up ac (fcl mb 210 0) (wh p), va_cpy (jw ch so p wn 8) tg 0 (fcl mb 210 0 * 8) 8, jw ch so p wn 8) by simp only [jnS, hz]]
    exact ⟨up_lt hs (by omega), rg_cpy hj ht, hj, up_le hm (by omega) (by have := hm (fcl mb 210 0); omega)⟩
  | some z =>
    have h2 := wst_lt hz
    rw [show jnS ch wh p (so, mb, ac, tg, wn) = (va_up so p z, va_up mb z (mb z + 1), ac, tg, jw ch so p wn 8) by simp only [jnS, hz]]
    exact ⟨up_lt hs (by omega), ht, hj, up_le hm (by omega) (by have := hm z; omega)⟩
theorem rcv_step {ch : Nat → Option Nat} {wh : Nat → Bool} {pa : Nat → Nat} {n z : Nat} {s t : ast} (h : z + 1 ≤ n) (e : rcv ch wh pa n s (n - (z + 1)) = t) : rcv ch wh pa n s (n - z) = jnS ch wh (pa z) t := by
  rw [show n - z = (n - (z + 1)) + 1 by omega]
  show jnS ch wh (pa (n - (n - (z + 1) + 1))) (rcv ch wh pa n s (n - (z + 1))) = _
  rw [show n - (n - (z + 1) + 1) = z by omega, e]
theorem trp_lt {ch : Nat → Option Nat} {tx : Nat → Nat} {n : Nat} {pa : Nat → Nat} (hr : rg ch) (hp : ∀ i, pa i < 211) : ∀ k i, trp ch tx n pa k i < 211
  | 0 => hp
  | k + 1 => by
    have ih := trp_lt (tx := tx) (n := n) hr hp k
    unfold trp
    cases h : tro ch tx n k with
    | none => exact ih
    | some z => exact up_lt ih (tro_lt hr h)
theorem rel_le {so pa mb : Nat → Nat} {b : Nat} (h : ∀ i, mb i ≤ b) : ∀ k i, rel so pa mb k i ≤ b
  | 0 => h
  | k + 1 => up_le (rel_le h k) (Nat.le_refl _) (by have := rel_le (so := so) (pa := pa) h k (so (pa k)); omega)
theorem grw_ok {tx : Nat → Nat} {ch : Nat → Option Nat} {hf : Nat → Nat} {b : Nat} (hr : rg ch) (hb : ∀ i, hf i ≤ b) : ∀ k, (grw tx ch hf k).1 < 211 ∧ rg (grw tx ch hf k).2.1 ∧ ∀ i, (grw tx ch hf k).2.2 i ≤ b + 1 + k
  | 0 => ⟨by show 0 < 211; omega, hr, up_le hb (by omega) (by have := hb 0; omega)⟩
  | k + 1 => by
    obtain ⟨h1, h2, h3⟩ := grw_ok (tx := tx) hr hb k
    show (grS (tx k) (grw tx ch hf k)).1 < 211 ∧ rg (grS (tx k) (grw tx ch hf k)).2.1 ∧ ∀ i, (grS (tx k) (grw tx ch hf k)).2.2 i ≤ b + 1 + (k + 1)
    generalize grw tx ch hf k = s at h1 h2 h3
    obtain ⟨p, c, f⟩ := s
    cases hz : c (p * 8 + lz (tx k)) with
    | none =>
      rw [show grS (tx k) (p, c, f) = (fcell f, va_up c (p * 8 + lz (tx k)) (some (fcell f)), va_up f (fcell f) (f (fcell f) + 1)) by simp only [grS, hz]]
      have := fcell_le f
      exact ⟨by show fcell f < 211; omega, rg_up h2 (by omega), up_le h3 (by omega) (by have : f (fcell f) ≤ b + 1 + k := h3 _; omega)⟩
    | some q =>
      rw [show grS (tx k) (p, c, f) = (q, c, va_up f q (f q + 1)) by simp only [grS, hz]]
      exact ⟨h2 _ _ hz, h2, up_le h3 (by omega) (by have : f q ≤ b + 1 + k := h3 _; omega)⟩
theorem ctw_ok {tx : Nat → Nat} {ch : Nat → Option Nat} {hf : Nat → Nat} {b : Nat} (hr : rg ch) (hb : ∀ i, hf i ≤ b) : ∀ k, (ctw tx ch hf k).1 < 211 ∧ rg (ctw tx ch hf k).2.1 ∧ ∀ i, (ctw tx ch hf k).2.2 i ≤ b
  | 0 => ⟨by show 0 < 211; omega, hr, up_le hb (by omega) (by have := hb 0; omega)⟩
  | k + 1 => by
    obtain ⟨h1, h2, h3⟩ := ctw_ok (tx := tx) hr hb k
    show (ctS (tx k) (ctw tx ch hf k)).1 < 211 ∧ rg (ctS (tx k) (ctw tx ch hf k)).2.1 ∧ ∀ i, (ctS (tx k) (ctw tx ch hf k)).2.2 i ≤ b
    generalize ctw tx ch hf k = s at h1 h2 h3
    obtain ⟨p, c, f⟩ := s
    unfold ctS
    refine ⟨?_, ?_, ?_⟩
    · show (c (p * 8 + lz (tx k))).getD 0 < 211
      cases hz : c (p * 8 + lz (tx k)) with
      | none => simp
      | some q => simpa using h2 _ _ hz
    · dsimp only
      split
      · exact rg_upN h2
      · exact h2
    · exact up_le h3 (Nat.le_refl _) (Nat.le_trans (Nat.sub_le _ _) (h3 _))
