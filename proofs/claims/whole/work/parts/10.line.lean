/-! contracts, laid by prog/mk.py -/
set_option maxHeartbeats 4000000 in
set_option maxRecDepth 100000 in
theorem c_Line_size (l : Launch) (D : va_G) (cI cZ cC cJ : ClassId) (hr ar : Nat) (m : Nat) (tx : Nat → Nat) (n : Nat)  : CI l yX2_size wsX2_size { frames := 0, cells := 0, slots := 0, locals := 0 } D vwCl (tys4 cI cZ cC cJ) [.ref hr] [(hr, .inr (2, [.ref ar, .int (nI n)])), (ar, .inl (cC, m, .inl (fun i => nI (tx i))))] ((nI n)) [(hr, .inr (2, [.ref ar, .int (nI n)])), (ar, .inl (cC, m, .inl (fun i => nI (tx i))))] := by
  refine CI.ofV rfl (by decide +kernel) rfl (Nat.le_of_ble_eq_true rfl) ?_
  intro κ x hret
  refine V_aload_n x 0 dX2_size_0 rfl rfl ?_
  refine V_get x 0 2 1 hinX2 rfl rfl (by decide) flX2_13 rfl dX2_size_1 ?_
  exact hret _ _ dX2_size_4
set_option maxHeartbeats 4000000 in
set_option maxRecDepth 100000 in
theorem c_Line_empty (l : Launch) (D : va_G) (cI cZ cC cJ : ClassId) (hr ar : Nat) (m : Nat) (tx : Nat → Nat) (n : Nat)  : CI l yX2_empty wsX2_empty { frames := 0, cells := 0, slots := 0, locals := 0 } D vwCl (tys4 cI cZ cC cJ) [.ref hr] [(hr, .inr (2, [.ref ar, .int (nI n)])), (ar, .inl (cC, m, .inl (fun i => nI (tx i))))] ((nI n)) [(hr, .inr (2, [.ref ar, .int (nI 0)])), (ar, .inl (cC, m, .inl (fun i => nI (tx i))))] := by
  refine CI.ofV rfl (by decide +kernel) rfl (Nat.le_of_ble_eq_true rfl) ?_
  intro κ x hret
  refine V_aload_n x 0 dX2_empty_0 rfl rfl ?_
  refine V_get x 0 2 1 hinX2 rfl rfl (by decide) flX2_13 rfl dX2_empty_1 ?_
  refine V_istore_n x 1 [(1, .int (nI n)), (0, .ref hr)] dX2_empty_4 rfl (by decide) rfl ?_
  refine V_aload_n x 0 dX2_empty_5 rfl rfl ?_
  refine V_iconst (v := nI 0) x dX2_empty_6 (by decide +kernel) ?_
  refine V_put (ty := .int) x 0 2 1 [(hr, .inr (2, [.ref ar, .int (nI 0)])), (ar, .inl (cC, m, .inl (fun i => nI (tx i))))] hinX2 tyX2 tyX2_ok nmX2 rfl rfl (by decide) flX2_13 rfl (by decide +kernel) rfl rfl (Nat.le_of_ble_eq_true rfl) rfl dX2_empty_7 ?_
  refine V_iload_n x 1 dX2_empty_10 rfl rfl ?_
  exact hret _ _ dX2_empty_11
set_option maxHeartbeats 4000000 in
set_option maxRecDepth 100000 in
theorem c_Line_put (l : Launch) (D : va_G) (cI cZ cC cJ : ClassId) (hr ar : Nat) (m : Nat) (tx : Nat → Nat) (n : Nat) (c : Nat) (hn : n < m) (hm : m < 1000) (hc : c < 65536) : CI l yX2_put wsX2_put { frames := 0, cells := 0, slots := 0, locals := 0 } D vwCl (tys4 cI cZ cC cJ) [.ref hr, .int (nI c)] [(hr, .inr (2, [.ref ar, .int (nI n)])), (ar, .inl (cC, m, .inl (fun i => nI (tx i))))] ((bI true)) [(hr, .inr (2, [.ref ar, .int (nI (n + 1))])), (ar, .inl (cC, m, .inl (fun i => nI ((va_up tx n c) i))))] := by
  refine CI.ofV (nar_bI2 _) (by decide +kernel) rfl (Nat.le_of_ble_eq_true rfl) ?_
  intro κ x hret
  refine V_aload_n x 0 dX2_put_0 rfl rfl ?_
  refine V_get x 0 2 1 hinX2 rfl rfl (by decide) flX2_13 rfl dX2_put_1 ?_
  refine V_aload_n x 0 dX2_put_4 rfl rfl ?_
  refine V_get x 0 2 0 hinX2 rfl rfl (by decide) flX2_7 rfl dX2_put_5 ?_
  refine V_alen x 1 2 rfl rfl dX2_put_8 ?_
  refine V_icmp_ltN x 14 dX2_put_9 rfl (fun t9 => ?_) (fun f9 => ?_)
  · skip
    refine V_aload_n x 0 dX2_put_14 rfl rfl ?_
    refine V_get x 0 2 0 hinX2 rfl rfl (by decide) flX2_7 rfl dX2_put_15 ?_
    refine V_aload_n x 0 dX2_put_18 rfl rfl ?_
    refine V_get x 0 2 1 hinX2 rfl rfl (by decide) flX2_13 rfl dX2_put_19 ?_
    refine V_iload_n x 1 dX2_put_22 rfl rfl ?_
    refine V_cast x 1 2 tx c [(hr, .inr (2, [.ref ar, .int (nI n)])), (ar, .inl (cC, m, .inl (fun i => nI ((va_up tx n c) i))))] rfl rfl dX2_put_23 (by omega) (by omega) (by omega) rfl ?_
    refine V_aload_n x 0 dX2_put_24 rfl rfl ?_
    refine V_dup x dX2_put_25 rfl ?_
    refine V_get x 0 2 1 hinX2 rfl rfl (by decide) flX2_13 rfl dX2_put_26 ?_
    refine V_iconst (v := nI 1) x dX2_put_29 (by decide +kernel) ?_
    refine V_iadd x (nI (n + 1)) dX2_put_30 (nI_add _ _) ?_
    refine V_put (ty := .int) x 0 2 1 [(hr, .inr (2, [.ref ar, .int (nI (n + 1))])), (ar, .inl (cC, m, .inl (fun i => nI ((va_up tx n c) i))))] hinX2 tyX2 tyX2_ok nmX2 rfl rfl (by decide) flX2_13 rfl (by decide +kernel) rfl rfl (Nat.le_of_ble_eq_true rfl) rfl dX2_put_31 ?_
    refine V_iconst (v := nI 1) x dX2_put_34 (by decide +kernel) ?_
    refine V.ci (x' := bI true) (by decide) ?_
    exact hret _ _ dX2_put_35
  · skip
    omega
set_option maxHeartbeats 4000000 in
set_option maxRecDepth 100000 in
theorem c_Line_full (l : Launch) (D : va_G) (cI cZ cC cJ : ClassId) (hr ar : Nat) (m : Nat) (tx : Nat → Nat) (n : Nat) (c : Nat) (hn : m ≤ n) (hn2 : n < 1000) (hc : c < 65536) : CI l yX2_put wsX2_put { frames := 0, cells := 0, slots := 0, locals := 0 } D vwCl (tys4 cI cZ cC cJ) [.ref hr, .int (nI c)] [(hr, .inr (2, [.ref ar, .int (nI n)])), (ar, .inl (cC, m, .inl (fun i => nI (tx i))))] ((bI false)) [(hr, .inr (2, [.ref ar, .int (nI n)])), (ar, .inl (cC, m, .inl (fun i => nI (tx i))))] := by
  refine CI.ofV (nar_bI2 _) (by decide +kernel) rfl (Nat.le_of_ble_eq_true rfl) ?_
  intro κ x hret
  refine V_aload_n x 0 dX2_put_0 rfl rfl ?_
  refine V_get x 0 2 1 hinX2 rfl rfl (by decide) flX2_13 rfl dX2_put_1 ?_
  refine V_aload_n x 0 dX2_put_4 rfl rfl ?_
  refine V_get x 0 2 0 hinX2 rfl rfl (by decide) flX2_7 rfl dX2_put_5 ?_
  refine V_alen x 1 2 rfl rfl dX2_put_8 ?_
  refine V_icmp_ltN x 14 dX2_put_9 rfl (fun t9 => ?_) (fun f9 => ?_)
  · skip
    omega
  · skip
    refine V_iconst (v := nI 0) x dX2_put_12 (by decide +kernel) ?_
    refine V.ci (x' := bI false) (by decide) ?_
    exact hret _ _ dX2_put_13
set_option maxHeartbeats 4000000 in
set_option maxRecDepth 100000 in
theorem c_Line_at (l : Launch) (D : va_G) (cI cZ cC cJ : ClassId) (hr ar : Nat) (m : Nat) (tx : Nat → Nat) (n : Nat) (p : Nat) (hp : p < n) (hn : n ≤ m) (hm : m < 1000) (htx : ∀ i, tx i < 65536) : CI l yX2_at wsX2_at { frames := 0, cells := 0, slots := 0, locals := 0 } D vwCl (tys4 cI cZ cC cJ) [.ref hr, .int (nI p)] [(hr, .inr (2, [.ref ar, .int (nI n)])), (ar, .inl (cC, m, .inl (fun i => nI (tx i))))] ((nI (tx p))) [(hr, .inr (2, [.ref ar, .int (nI n)])), (ar, .inl (cC, m, .inl (fun i => nI (tx i))))] := by
  refine CI.ofV (nar_ch2 (htx p)) (by decide +kernel) rfl (Nat.le_of_ble_eq_true rfl) ?_
  intro κ x hret
  refine V_iload_n x 1 dX2_at_0 rfl rfl ?_
  refine V_if_ltN x 21 dX2_at_1 rfl (fun t1 => ?_) (fun f1 => ?_)
  · skip
    exact t1.elim
  · skip
    refine V_iload_n x 1 dX2_at_4 rfl rfl ?_
    refine V_aload_n x 0 dX2_at_5 rfl rfl ?_
    refine V_get x 0 2 1 hinX2 rfl rfl (by decide) flX2_13 rfl dX2_at_6 ?_
    refine V_icmp_geN x 21 dX2_at_9 rfl (fun t9 => ?_) (fun f9 => ?_)
    · skip
      omega
    · skip
      refine V_aload_n x 0 dX2_at_12 rfl rfl ?_
      refine V_get x 0 2 0 hinX2 rfl rfl (by decide) flX2_7 rfl dX2_at_13 ?_
      refine V_iload_n x 1 dX2_at_16 rfl rfl ?_
      refine V_cald x 1 2 rfl rfl dX2_at_17 (by omega) (by omega) ?_
      refine V_goto x 23 dX2_at_18 rfl ?_
      exact hret _ _ dX2_at_23
set_option maxHeartbeats 4000000 in
set_option maxRecDepth 100000 in
theorem c_Line_atZ (l : Launch) (D : va_G) (cI cZ cC cJ : ClassId) (hr ar : Nat) (m : Nat) (tx : Nat → Nat) (n : Nat) (z : Int32) (hz : ¬ (0 ≤ z ∧ z < nI n)) : CI l yX2_at wsX2_at { frames := 0, cells := 0, slots := 0, locals := 0 } D vwCl (tys4 cI cZ cC cJ) [.ref hr, .int z] [(hr, .inr (2, [.ref ar, .int (nI n)])), (ar, .inl (cC, m, .inl (fun i => nI (tx i))))] ((nI 32)) [(hr, .inr (2, [.ref ar, .int (nI n)])), (ar, .inl (cC, m, .inl (fun i => nI (tx i))))] := by
  refine CI.ofV (nar_ch2 (by omega)) (by decide +kernel) rfl (Nat.le_of_ble_eq_true rfl) ?_
  intro κ x hret
  refine V_iload_n x 1 dX2_at_0 rfl rfl ?_
  refine V_if_lt x 21 dX2_at_1 rfl (fun t1 => ?_) (fun f1 => ?_)
  · skip
    refine V_bipush (v := nI 32) x dX2_at_21 (by decide +kernel) ?_
    exact hret _ _ dX2_at_23
  · skip
    refine V_iload_n x 1 dX2_at_4 rfl rfl ?_
    refine V_aload_n x 0 dX2_at_5 rfl rfl ?_
    refine V_get x 0 2 1 hinX2 rfl rfl (by decide) flX2_13 rfl dX2_at_6 ?_
    refine V_icmp_ge x 21 dX2_at_9 rfl (fun t9 => ?_) (fun f9 => ?_)
    · skip
      refine V_bipush (v := nI 32) x dX2_at_21 (by decide +kernel) ?_
      exact hret _ _ dX2_at_23
    · skip
      exact absurd ⟨Int32.not_lt.mp f1, Int32.not_le.mp f9⟩ hz
set_option maxHeartbeats 4000000 in
set_option maxRecDepth 100000 in
theorem c_letterOf (l : Launch) (D : va_G) (cI cZ cC cJ : ClassId)  (c : Nat) (hc : c < 65536) : CI l yX6_letterOf wsX6_letterOf { frames := 0, cells := 0, slots := 0, locals := 0 } D vwCl (tys4 cI cZ cC cJ) [.int (nI c)] [] ((oN (ltr c))) [] := by
  refine CI.ofV rfl (by decide +kernel) rfl (Nat.le_of_ble_eq_true rfl) ?_
  intro κ x hret
  refine V_iload_n x 0 dX6_letterOf_0 rfl rfl ?_
  refine V_bipush (v := nI 97) x dX6_letterOf_1 (by decide +kernel) ?_
  refine V_icmp_ltN x 19 dX6_letterOf_3 rfl (fun t3 => ?_) (fun f3 => ?_)
  · skip
    refine V_iconst (v := (-1)) x dX6_letterOf_19 (by decide +kernel) ?_
    refine V.ci (x' := oN (ltr c)) (by first | (rw [ltr_some (by omega) (by omega)]; rfl) | (rw [ltr_none (by omega)]; rfl)) ?_
    exact hret _ _ dX6_letterOf_20
  · skip
    refine V_iload_n x 0 dX6_letterOf_6 rfl rfl ?_
    refine V_bipush (v := nI 105) x dX6_letterOf_7 (by decide +kernel) ?_
    refine V_icmp_geN x 19 dX6_letterOf_9 rfl (fun t9 => ?_) (fun f9 => ?_)
    · skip
      refine V_iconst (v := (-1)) x dX6_letterOf_19 (by decide +kernel) ?_
      refine V.ci (x' := oN (ltr c)) (by first | (rw [ltr_some (by omega) (by omega)]; rfl) | (rw [ltr_none (by omega)]; rfl)) ?_
      exact hret _ _ dX6_letterOf_20
    · skip
      refine V_iload_n x 0 dX6_letterOf_12 rfl rfl ?_
      refine V_bipush (v := nI 97) x dX6_letterOf_13 (by decide +kernel) ?_
      refine V_isub x (nI (c - 97)) dX6_letterOf_15 (pk_sub (by omega)) ?_
      refine V_goto x 20 dX6_letterOf_16 rfl ?_
      refine V.ci (x' := oN (ltr c)) (by first | (rw [ltr_some (by omega) (by omega)]; rfl) | (rw [ltr_none (by omega)]; rfl)) ?_
      exact hret _ _ dX6_letterOf_20
