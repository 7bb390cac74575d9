/-! Arrays.fill; cells that are told otherwise beyond their ends -/
theorem vp_cell_ext {cA : ClassId} {n : Nat} {f g : Nat → Int32} (h : ∀ i, i < n → f i = g i) : vp_cell cA (n, .inl f) = vp_cell cA (n, .inl g) := by
  rw [vp_cell_i, vp_cell_i]
  unfold arrV
  have : (Array.ofFn (n := n) fun j => Value.int (f j.val)) = Array.ofFn (n := n) fun j => Value.int (g j.val) := by
    congr 1
    funext j
    rw [h j.val j.isLt]
  rw [this]
theorem V.ext {κ : Ku} {cells slots : Nat} {ws : va_W} {pc : Nat} {lv : List (Nat × Value)} {st : List Value} {q0 a n : Nat} {cA : ClassId} {f : Nat → Int32} (g : Nat → Int32) (ws' : va_W) (he : ws[q0]? = some (a, .inl (cA, n, .inl f))) (h : ∀ i, i < n → f i = g i) (hw : ws.set q0 (a, .inl (cA, n, .inl g)) = ws') (k : V κ cells slots ws' pc lv st) : V κ cells slots ws pc lv st := by
  obtain ⟨p, l, e, R, s, m, args, below, meth, c, Q, D', cl', A, nL'⟩ := κ
  subst hw
  intro H locs ls hP hD hS hL
  refine k H locs ls (fun k' q hq => ?_) (vD_fst (set_fst (by rw [he]; rfl)) hD) hS hL
  by_cases e1 : q0 = k'
  · subst e1
    rw [List.getElem?_set_self', he] at hq
    have hq : q = (a, .inl (cA, n, .inl g)) := (Option.some.inj hq).symm
    subst hq
    have := hP q0 _ he
    show H[a]? = some (vp_cell cA (n, .inl g))
    rw [← vp_cell_ext h]
    exact this
  · rw [List.getElem?_set_ne e1] at hq
    exact hP k' q hq
theorem ra_int (U : State) (c1 c2 : ClassId) (h1 : va_RA U c1 .int) (h2 : va_RA U c2 .int) : c1 = c2 := Option.some.inj (h1.symm.trans h2)
theorem ra_boolean (U : State) (c1 c2 : ClassId) (h1 : va_RA U c1 .boolean) (h2 : va_RA U c2 .boolean) : c1 = c2 := Option.some.inj (h1.symm.trans h2)
theorem ra_char (U : State) (c1 c2 : ClassId) (h1 : va_RA U c1 .char) (h2 : va_RA U c2 .char) : c1 = c2 := Option.some.inj (h1.symm.trans h2)
theorem ra_long (U : State) (c1 c2 : ClassId) (h1 : va_RA U c1 .long) (h2 : va_RA U c2 .long) : c1 = c2 := Option.some.inj (h1.symm.trans h2)
theorem c_fill (l : Launch) (D : va_G) (cI cZ cC cJ : ClassId) (a n : Nat) (f : Nat → Option Nat) (hn : n < 1000000) : CV l fi_y fi_ws { frames := 0, cells := 0, slots := 0, locals := 0 } D vwCl (tys4 cI cZ cC cJ) [.ref a, .int (-1)] [(a, .inl (cI, n, .inl (fun i => oN (f i))))] [(a, .inl (cI, n, .inl (fun i => oN ((fun _ => none) i))))] := by
  refine CV.ofV (by decide +kernel) rfl (Nat.le_of_ble_eq_true rfl) ?_
  intro κ x hret
  refine V_iconst (v := nI 0) x fi_0 (by decide +kernel) ?_
  refine V_istore_n x 2 [(2, .int (nI 0)), (0, .ref a), (1, .int (-1))] fi_1 rfl (by decide) rfl ?_
  refine V_aload_n x 0 fi_2 rfl rfl ?_
  refine V_alen x 0 0 rfl rfl fi_3 ?_
  refine V_istore_n x 3 [(3, .int (nI n)), (2, .int (nI 0)), (0, .ref a), (1, .int (-1))] fi_4 rfl (by decide) rfl ?_
  have L5 : ∀ (k m : Nat) (g : Nat → Option Nat), m ≤ n → n - m = k → (∀ i, i < m → g i = none) → V κ 0 0 [(a, .inl (cI, n, .inl (fun i => oN (g i))))] 5 [(3, .int (nI n)), (2, .int (nI m)), (0, .ref a), (1, .int (-1))] [] := by
    intro k
    induction k with
    | zero =>
      intro m g hm hk hg
      refine V_iload_n x 2 fi_5 rfl rfl ?_
      refine V_iload_n x 3 fi_6 rfl rfl ?_
      refine V_icmp_geN x 20 fi_7 rfl (fun t => ?_) (fun f => ?_)
      · refine V.ext (q0 := 0) (fun i => oN ((fun _ => none) i)) [(a, .inl (cI, n, .inl (fun i => oN ((fun _ => none) i))))] rfl (fun i hi => by rw [hg i (by omega)]) rfl ?_
        exact hret _ _ fi_20
      · omega
    | succ k ih =>
      intro m g hm hk hg
      refine V_iload_n x 2 fi_5 rfl rfl ?_
      refine V_iload_n x 3 fi_6 rfl rfl ?_
      refine V_icmp_geN x 20 fi_7 rfl (fun t => ?_) (fun f => ?_)
      · omega
      · refine V_aload_n x 0 fi_10 rfl rfl ?_
        refine V_iload_n x 2 fi_11 rfl rfl ?_
        refine V_iload_n x 1 fi_12 rfl rfl ?_
        refine V_iast x 0 0 oN g none [(a, .inl (cI, n, .inl (fun i => oN (va_up g m none i))))] rfl rfl fi_13 (by omega) (by omega) rfl ?_
        refine V_iinc x 2 1 [(2, .int (nI (m + 1))), (3, .int (nI n)), (0, .ref a), (1, .int (-1))] fi_14 rfl (iinc_1 _) (by decide) rfl ?_
        refine V_goto x 5 fi_17 rfl ?_
        refine V.sub [1, 0, 2, 3] (lv' := [(3, .int (nI n)), (2, .int (nI (m + 1))), (0, .ref a), (1, .int (-1))]) rfl ?_
        refine ih (m + 1) (va_up g m none) (by omega) (by omega) (fun i hi => ?_)
        by_cases e : i = m
        · subst e
          exact va_up_self _ _ _
        · rw [va_up_ne _ _ e]
          exact hg i (by omega)
  exact L5 n 0 f (Nat.zero_le _) rfl (fun i hi => by omega)
/-! a new row's places -/
theorem nz_int_nI (n : Nat) : ∀ cA : ClassId, vp_cell cA (n, .inl (fun i => nI ((fun _ => 0) i))) = arrV cA n (fun _ => defaultValue .int) := fun _ => rfl
theorem nz_char_nI (n : Nat) : ∀ cA : ClassId, vp_cell cA (n, .inl (fun i => nI ((fun _ => 0) i))) = arrV cA n (fun _ => defaultValue .char) := fun _ => rfl
theorem nz_int_oN (n : Nat) : ∀ cA : ClassId, vp_cell cA (n, .inl (fun i => oN ((fun _ => some 0) i))) = arrV cA n (fun _ => defaultValue .int) := fun _ => rfl
theorem nz_boolean_bI (n : Nat) : ∀ cA : ClassId, vp_cell cA (n, .inl (fun i => bI ((fun _ => false) i))) = arrV cA n (fun _ => defaultValue .boolean) := fun _ => rfl
theorem nz_long_ (n : Nat) : ∀ cA : ClassId, vp_cell cA (n, .inr (.inl (fun _ => 0))) = arrV cA n (fun _ => defaultValue .long) := fun _ => rfl
