/-! Rows for the law -/
def Sx (κ : Ku) (sb SL : Nat) (xs : Nat → Int32) : Prop := match κ with
  | (_, _, _, _, s, _, _, _, _, _, _, _, _, A, _) => va_X sb SL xs s s.heap ∧ sb < s.heap.size ∧ ¬ A sb
section VL
variable {κ : Ku} {lc : Launch} {rm : Room} {cc : ByteArray} {nL : Nat} {Ts : List Cond} {own : String} {D : va_G} {cl : List vw_C} {tys : List (ClassId × FieldType)}
variable {cells slots : Nat} {ws : va_W} {pc : Nat} {lv : List (Nat × Value)} {st : List Value}
theorem V_sld (x : Cx κ lc rm cc nL Ts own D cl tys) {sb SL i : Nat} {xs : Nat → Int32} (hX : Sx κ sb SL xs) (hi : i < SL) (hS2 : SL < 2147483648) (hdg : decode cc pc = .ok (.iaload, 1))
    (k : V κ cells slots ws (pc + 1) lv (.int (xs i) :: st)) : V κ cells slots ws pc lv (.int (nI i) :: .ref sb :: st) := by
  obtain ⟨p, l, e, R, s, m, args, below, meth, c, Q, D', cl', A, nL'⟩ := κ
  obtain ⟨rfl, rfl, rfl, rfl, rfl, hx, hb, hml, hown, hts, hK, hNw, hA⟩ := x
  exact fun H locs ls hP hD hS hL => va_sld hx hb hX.1 hX.2.1 hX.2.2 hS (vp_in_nI hi hS2) hdg (by rw [nI_clamp (Nat.lt_trans hi hS2)]; exact k H locs ls hP hD hS hL)
theorem V_slen (x : Cx κ lc rm cc nL Ts own D cl tys) {sb SL : Nat} {xs : Nat → Int32} (hX : Sx κ sb SL xs) (hdg : decode cc pc = .ok (.arraylength, 1))
    (k : V κ cells slots ws (pc + 1) lv (.int (nI SL) :: st)) : V κ cells slots ws pc lv (.ref sb :: st) := by
  obtain ⟨p, l, e, R, s, m, args, below, meth, c, Q, D', cl', A, nL'⟩ := κ
  obtain ⟨rfl, rfl, rfl, rfl, rfl, hx, hb, hml, hown, hts, hK, hNw, hA⟩ := x
  exact fun H locs ls hP hD hS hL => va_slen hx hb hX.1 hX.2.1 hX.2.2 hS hdg (k H locs ls hP hD hS hL)
theorem V_tabIn (x : Cx κ lc rm cc nL Ts own D cl tys) {dflt lo hi : Int} {offs : Array Int} {len : Nat} {v : Int32} {off : Int} (tgt : Nat) (hdg : decode cc pc = .ok (.tableswitch dflt lo hi offs, len)) (h1 : ¬ v.toInt < lo) (h2 : ¬ hi < v.toInt) (ho : offs[(v.toInt - lo).toNat]? = some off) (ht : (pc : Int) + off = (tgt : Int))
    (k : V κ cells slots ws tgt lv st) : V κ cells slots ws pc lv (.int v :: st) := by
  obtain ⟨p, l, e, R, s, m, args, below, meth, c, Q, D', cl', A, nL'⟩ := κ
  obtain ⟨rfl, rfl, rfl, rfl, rfl, hx, hb, hml, hown, hts, hK, hNw, hA⟩ := x
  exact fun H locs ls hP hD hS hL => lv_tableIn hx hb hdg h1 h2 ho ht (k H locs ls hP hD hS hL)
theorem V_tabOut (x : Cx κ lc rm cc nL Ts own D cl tys) {dflt lo hi : Int} {offs : Array Int} {len : Nat} {v : Int32} (tgt : Nat) (hdg : decode cc pc = .ok (.tableswitch dflt lo hi offs, len)) (h : v.toInt < lo ∨ hi < v.toInt) (ht : (pc : Int) + dflt = (tgt : Int))
    (k : V κ cells slots ws tgt lv st) : V κ cells slots ws pc lv (.int v :: st) := by
  obtain ⟨p, l, e, R, s, m, args, below, meth, c, Q, D', cl', A, nL'⟩ := κ
  obtain ⟨rfl, rfl, rfl, rfl, rfl, hx, hb, hml, hown, hts, hK, hNw, hA⟩ := x
  exact fun H locs ls hP hD hS hL => lv_tableOut hx hb hdg h ht (k H locs ls hP hD hS hL)
end VL
theorem lg_same {a b : Int64} (h : a = b) : lg_cmp a b = 0 := by
  subst h
  simp [lg_cmp]
