/-! contracts, laid by prog/mk.py -/
set_option maxHeartbeats 4000000 in
set_option maxRecDepth 100000 in
theorem c_held (l : Launch) (D : va_G) (cI cZ cC cJ : ClassId) (ht tc tw tf tb tl ts tq : Nat) (ch : Nat → Option Nat) (wh : Nat → Bool) (hf : Nat → Nat) (hb : Nat → Nat) (ln : Nat → Nat) (sw : Nat → Option Nat) (od : Nat → Nat)  : CI l yX5_held wsX5_held { frames := 0, cells := 0, slots := 0, locals := 0 } D vwCl (tys4 cI cZ cC cJ) [.ref ht] [(ht, .inr (5, [.ref tc, .ref tw, .ref tf, .ref tb, .ref tl, .ref ts, .ref tq])), (tc, .inl (cI, 1688, .inl (fun i => oN (ch i)))), (tw, .inl (cZ, 211, .inl (fun i => bI (wh i)))), (tf, .inl (cI, 211, .inl (fun i => nI (hf i)))), (tb, .inl (cI, 211, .inl (fun i => nI (hb i)))), (tl, .inl (cI, 211, .inl (fun i => nI (ln i)))), (ts, .inl (cI, 211, .inl (fun i => oN (sw i)))), (tq, .inl (cI, 211, .inl (fun i => nI (od i))))] ((nI (hf 0))) [(ht, .inr (5, [.ref tc, .ref tw, .ref tf, .ref tb, .ref tl, .ref ts, .ref tq])), (tc, .inl (cI, 1688, .inl (fun i => oN (ch i)))), (tw, .inl (cZ, 211, .inl (fun i => bI (wh i)))), (tf, .inl (cI, 211, .inl (fun i => nI (hf i)))), (tb, .inl (cI, 211, .inl (fun i => nI (hb i)))), (tl, .inl (cI, 211, .inl (fun i => nI (ln i)))), (ts, .inl (cI, 211, .inl (fun i => oN (sw i)))), (tq, .inl (cI, 211, .inl (fun i => nI (od i))))] := by
  refine CI.ofV rfl (by decide +kernel) rfl (Nat.le_of_ble_eq_true rfl) ?_
  intro κ x hret
  refine V_aload_n x 0 dX5_held_0 rfl rfl ?_
  refine V_get x 0 5 2 hinX5 rfl rfl (by decide) flX5_19 rfl dX5_held_1 ?_
  refine V_iconst (v := nI 0) x dX5_held_4 (by decide +kernel) ?_
  refine V_iald x 3 0 rfl rfl dX5_held_5 (by omega) (by omega) ?_
  exact hret _ _ dX5_held_6
set_option maxHeartbeats 4000000 in
set_option maxRecDepth 100000 in
theorem c_heldFrom (l : Launch) (D : va_G) (cI cZ cC cJ : ClassId) (ht tc tw tf tb tl ts tq : Nat) (ch : Nat → Option Nat) (wh : Nat → Bool) (hf : Nat → Nat) (hb : Nat → Nat) (ln : Nat → Nat) (sw : Nat → Option Nat) (od : Nat → Nat) (p : Nat) (hp : p < 211) : CI l yX5_heldFrom wsX5_heldFrom { frames := 0, cells := 0, slots := 0, locals := 0 } D vwCl (tys4 cI cZ cC cJ) [.ref ht, .int (nI p)] [(ht, .inr (5, [.ref tc, .ref tw, .ref tf, .ref tb, .ref tl, .ref ts, .ref tq])), (tc, .inl (cI, 1688, .inl (fun i => oN (ch i)))), (tw, .inl (cZ, 211, .inl (fun i => bI (wh i)))), (tf, .inl (cI, 211, .inl (fun i => nI (hf i)))), (tb, .inl (cI, 211, .inl (fun i => nI (hb i)))), (tl, .inl (cI, 211, .inl (fun i => nI (ln i)))), (ts, .inl (cI, 211, .inl (fun i => oN (sw i)))), (tq, .inl (cI, 211, .inl (fun i => nI (od i))))] ((nI (hf p))) [(ht, .inr (5, [.ref tc, .ref tw, .ref tf, .ref tb, .ref tl, .ref ts, .ref tq])), (tc, .inl (cI, 1688, .inl (fun i => oN (ch i)))), (tw, .inl (cZ, 211, .inl (fun i => bI (wh i)))), (tf, .inl (cI, 211, .inl (fun i => nI (hf i)))), (tb, .inl (cI, 211, .inl (fun i => nI (hb i)))), (tl, .inl (cI, 211, .inl (fun i => nI (ln i)))), (ts, .inl (cI, 211, .inl (fun i => oN (sw i)))), (tq, .inl (cI, 211, .inl (fun i => nI (od i))))] := by
  refine CI.ofV rfl (by decide +kernel) rfl (Nat.le_of_ble_eq_true rfl) ?_
  intro κ x hret
  refine V_aload_n x 0 dX5_heldFrom_0 rfl rfl ?_
  refine V_get x 0 5 2 hinX5 rfl rfl (by decide) flX5_19 rfl dX5_heldFrom_1 ?_
  refine V_iload_n x 1 dX5_heldFrom_4 rfl rfl ?_
  refine V_iald x 3 0 rfl rfl dX5_heldFrom_5 (by omega) (by omega) ?_
  exact hret _ _ dX5_heldFrom_6
set_option maxHeartbeats 4000000 in
set_option maxRecDepth 100000 in
theorem c_numberOf (l : Launch) (D : va_G) (cI cZ cC cJ : ClassId) (ht tc tw tf tb tl ts tq : Nat) (ch : Nat → Option Nat) (wh : Nat → Bool) (hf : Nat → Nat) (hb : Nat → Nat) (ln : Nat → Nat) (sw : Nat → Option Nat) (od : Nat → Nat) (p : Nat) (hp : p < 211) : CI l yX5_numberOf wsX5_numberOf { frames := 0, cells := 0, slots := 0, locals := 0 } D vwCl (tys4 cI cZ cC cJ) [.ref ht, .int (nI p)] [(ht, .inr (5, [.ref tc, .ref tw, .ref tf, .ref tb, .ref tl, .ref ts, .ref tq])), (tc, .inl (cI, 1688, .inl (fun i => oN (ch i)))), (tw, .inl (cZ, 211, .inl (fun i => bI (wh i)))), (tf, .inl (cI, 211, .inl (fun i => nI (hf i)))), (tb, .inl (cI, 211, .inl (fun i => nI (hb i)))), (tl, .inl (cI, 211, .inl (fun i => nI (ln i)))), (ts, .inl (cI, 211, .inl (fun i => oN (sw i)))), (tq, .inl (cI, 211, .inl (fun i => nI (od i))))] ((nI (hb p))) [(ht, .inr (5, [.ref tc, .ref tw, .ref tf, .ref tb, .ref tl, .ref ts, .ref tq])), (tc, .inl (cI, 1688, .inl (fun i => oN (ch i)))), (tw, .inl (cZ, 211, .inl (fun i => bI (wh i)))), (tf, .inl (cI, 211, .inl (fun i => nI (hf i)))), (tb, .inl (cI, 211, .inl (fun i => nI (hb i)))), (tl, .inl (cI, 211, .inl (fun i => nI (ln i)))), (ts, .inl (cI, 211, .inl (fun i => oN (sw i)))), (tq, .inl (cI, 211, .inl (fun i => nI (od i))))] := by
  refine CI.ofV rfl (by decide +kernel) rfl (Nat.le_of_ble_eq_true rfl) ?_
  intro κ x hret
  refine V_aload_n x 0 dX5_numberOf_0 rfl rfl ?_
  refine V_get x 0 5 3 hinX5 rfl rfl (by decide) flX5_22 rfl dX5_numberOf_1 ?_
  refine V_iload_n x 1 dX5_numberOf_4 rfl rfl ?_
  refine V_iald x 4 0 rfl rfl dX5_numberOf_5 (by omega) (by omega) ?_
  exact hret _ _ dX5_numberOf_6
set_option maxHeartbeats 4000000 in
set_option maxRecDepth 100000 in
theorem c_shorter (l : Launch) (D : va_G) (cI cZ cC cJ : ClassId) (ht tc tw tf tb tl ts tq : Nat) (ch : Nat → Option Nat) (wh : Nat → Bool) (hf : Nat → Nat) (hb : Nat → Nat) (ln : Nat → Nat) (sw : Nat → Option Nat) (od : Nat → Nat) (p : Nat) (hp : p < 211) : CI l yX5_shorterWord wsX5_shorterWord { frames := 0, cells := 0, slots := 0, locals := 0 } D vwCl (tys4 cI cZ cC cJ) [.ref ht, .int (nI p)] [(ht, .inr (5, [.ref tc, .ref tw, .ref tf, .ref tb, .ref tl, .ref ts, .ref tq])), (tc, .inl (cI, 1688, .inl (fun i => oN (ch i)))), (tw, .inl (cZ, 211, .inl (fun i => bI (wh i)))), (tf, .inl (cI, 211, .inl (fun i => nI (hf i)))), (tb, .inl (cI, 211, .inl (fun i => nI (hb i)))), (tl, .inl (cI, 211, .inl (fun i => nI (ln i)))), (ts, .inl (cI, 211, .inl (fun i => oN (sw i)))), (tq, .inl (cI, 211, .inl (fun i => nI (od i))))] ((oN (sw p))) [(ht, .inr (5, [.ref tc, .ref tw, .ref tf, .ref tb, .ref tl, .ref ts, .ref tq])), (tc, .inl (cI, 1688, .inl (fun i => oN (ch i)))), (tw, .inl (cZ, 211, .inl (fun i => bI (wh i)))), (tf, .inl (cI, 211, .inl (fun i => nI (hf i)))), (tb, .inl (cI, 211, .inl (fun i => nI (hb i)))), (tl, .inl (cI, 211, .inl (fun i => nI (ln i)))), (ts, .inl (cI, 211, .inl (fun i => oN (sw i)))), (tq, .inl (cI, 211, .inl (fun i => nI (od i))))] := by
  refine CI.ofV rfl (by decide +kernel) rfl (Nat.le_of_ble_eq_true rfl) ?_
  intro κ x hret
  refine V_aload_n x 0 dX5_shorterWord_0 rfl rfl ?_
  refine V_get x 0 5 5 hinX5 rfl rfl (by decide) flX5_28 rfl dX5_shorterWord_1 ?_
  refine V_iload_n x 1 dX5_shorterWord_4 rfl rfl ?_
  refine V_iald x 6 0 rfl rfl dX5_shorterWord_5 (by omega) (by omega) ?_
  exact hret _ _ dX5_shorterWord_6
set_option maxHeartbeats 4000000 in
set_option maxRecDepth 100000 in
theorem c_child (l : Launch) (D : va_G) (cI cZ cC cJ : ClassId) (ht tc tw tf tb tl ts tq : Nat) (ch : Nat → Option Nat) (wh : Nat → Bool) (hf : Nat → Nat) (hb : Nat → Nat) (ln : Nat → Nat) (sw : Nat → Option Nat) (od : Nat → Nat) (p : Nat) (q : Nat) (hp : p < 211) (hq : q < 8) : CI l yX5_child wsX5_child { frames := 0, cells := 0, slots := 0, locals := 0 } D vwCl (tys4 cI cZ cC cJ) [.ref ht, .int (nI p), .int (nI q)] [(ht, .inr (5, [.ref tc, .ref tw, .ref tf, .ref tb, .ref tl, .ref ts, .ref tq])), (tc, .inl (cI, 1688, .inl (fun i => oN (ch i)))), (tw, .inl (cZ, 211, .inl (fun i => bI (wh i)))), (tf, .inl (cI, 211, .inl (fun i => nI (hf i)))), (tb, .inl (cI, 211, .inl (fun i => nI (hb i)))), (tl, .inl (cI, 211, .inl (fun i => nI (ln i)))), (ts, .inl (cI, 211, .inl (fun i => oN (sw i)))), (tq, .inl (cI, 211, .inl (fun i => nI (od i))))] ((oN (ch (p * 8 + q)))) [(ht, .inr (5, [.ref tc, .ref tw, .ref tf, .ref tb, .ref tl, .ref ts, .ref tq])), (tc, .inl (cI, 1688, .inl (fun i => oN (ch i)))), (tw, .inl (cZ, 211, .inl (fun i => bI (wh i)))), (tf, .inl (cI, 211, .inl (fun i => nI (hf i)))), (tb, .inl (cI, 211, .inl (fun i => nI (hb i)))), (tl, .inl (cI, 211, .inl (fun i => nI (ln i)))), (ts, .inl (cI, 211, .inl (fun i => oN (sw i)))), (tq, .inl (cI, 211, .inl (fun i => nI (od i))))] := by
  refine CI.ofV rfl (by decide +kernel) rfl (Nat.le_of_ble_eq_true rfl) ?_
  intro κ x hret
  refine V_aload_n x 0 dX5_child_0 rfl rfl ?_
  refine V_get x 0 5 0 hinX5 rfl rfl (by decide) flX5_9 rfl dX5_child_1 ?_
  refine V_iload_n x 1 dX5_child_4 rfl rfl ?_
  refine V_bipush (v := nI 8) x dX5_child_5 (by decide +kernel) ?_
  refine V_imul x (nI (p * 8)) dX5_child_7 (pk_mul _ _) ?_
  refine V_iload_n x 2 dX5_child_8 rfl rfl ?_
  refine V_iadd x (nI ((p * 8) + q)) dX5_child_9 (nI_add _ _) ?_
  refine V_iald x 1 0 rfl rfl dX5_child_10 (by omega) (by omega) ?_
  refine V.ci (x' := oN (ch (p * 8 + q))) rfl ?_
  exact hret _ _ dX5_child_11
set_option maxHeartbeats 4000000 in
set_option maxRecDepth 100000 in
theorem c_isHeld (l : Launch) (D : va_G) (cI cZ cC cJ : ClassId) (ht tc tw tf tb tl ts tq : Nat) (ch : Nat → Option Nat) (wh : Nat → Bool) (hf : Nat → Nat) (hb : Nat → Nat) (ln : Nat → Nat) (sw : Nat → Option Nat) (od : Nat → Nat) (o : Option Nat) (ho : ∀ z, o = some z → z < 211) : CI l yX5_isHeld wsX5_isHeld { frames := 0, cells := 0, slots := 0, locals := 0 } D vwCl (tys4 cI cZ cC cJ) [.ref ht, .int (oN o)] [(ht, .inr (5, [.ref tc, .ref tw, .ref tf, .ref tb, .ref tl, .ref ts, .ref tq])), (tc, .inl (cI, 1688, .inl (fun i => oN (ch i)))), (tw, .inl (cZ, 211, .inl (fun i => bI (wh i)))), (tf, .inl (cI, 211, .inl (fun i => nI (hf i)))), (tb, .inl (cI, 211, .inl (fun i => nI (hb i)))), (tl, .inl (cI, 211, .inl (fun i => nI (ln i)))), (ts, .inl (cI, 211, .inl (fun i => oN (sw i)))), (tq, .inl (cI, 211, .inl (fun i => nI (od i))))] ((bI (whO wh o))) [(ht, .inr (5, [.ref tc, .ref tw, .ref tf, .ref tb, .ref tl, .ref ts, .ref tq])), (tc, .inl (cI, 1688, .inl (fun i => oN (ch i)))), (tw, .inl (cZ, 211, .inl (fun i => bI (wh i)))), (tf, .inl (cI, 211, .inl (fun i => nI (hf i)))), (tb, .inl (cI, 211, .inl (fun i => nI (hb i)))), (tl, .inl (cI, 211, .inl (fun i => nI (ln i)))), (ts, .inl (cI, 211, .inl (fun i => oN (sw i)))), (tq, .inl (cI, 211, .inl (fun i => nI (od i))))] := by
  refine CI.ofV (nar_bI2 _) (by decide +kernel) rfl (Nat.le_of_ble_eq_true rfl) ?_
  intro κ x hret
  refine V_iload_n x 1 dX5_isHeld_0 rfl rfl ?_
  refine V_iconst (v := (-1)) x dX5_isHeld_1 (by decide +kernel) ?_
  refine V_icmp_eqO x 18 dX5_isHeld_2 rfl (fun z hz => lt31 (ho z hz)) (fun t2 => ?_) (fun z2 f2 => ?_)
  · skip
    simp only [t2, oN_none]
    refine V_iconst (v := nI 0) x dX5_isHeld_18 (by decide +kernel) ?_
    refine V.ci (x' := bI (whO wh o)) (by first | (rw [t2]; rfl) | (rw [f2, whO_s, t11]; rfl) | (rw [f2, whO_s, f11]; rfl)) ?_
    exact hret _ _ dX5_isHeld_19
  · skip
    simp only [f2, oN_some]
    refine V_aload_n x 0 dX5_isHeld_5 rfl rfl ?_
    refine V_get x 0 5 1 hinX5 rfl rfl (by decide) flX5_15 rfl dX5_isHeld_6 ?_
    refine V_iload_n x 1 dX5_isHeld_9 rfl rfl ?_
    refine V_zald x 2 1 rfl rfl dX5_isHeld_10 (ho _ f2) (by omega) ?_
    refine V_if_eqB x 18 dX5_isHeld_11 rfl (fun t11 => ?_) (fun f11 => ?_)
    · skip
      refine V_iconst (v := nI 0) x dX5_isHeld_18 (by decide +kernel) ?_
      refine V.ci (x' := bI (whO wh o)) (by first | (rw [t2]; rfl) | (rw [f2, whO_s, t11]; rfl) | (rw [f2, whO_s, f11]; rfl)) ?_
      exact hret _ _ dX5_isHeld_19
    · skip
      refine V_iconst (v := nI 1) x dX5_isHeld_14 (by decide +kernel) ?_
      refine V_goto x 19 dX5_isHeld_15 rfl ?_
      refine V.ci (x' := bI (whO wh o)) (by first | (rw [t2]; rfl) | (rw [f2, whO_s, t11]; rfl) | (rw [f2, whO_s, f11]; rfl)) ?_
      exact hret _ _ dX5_isHeld_19
set_option maxHeartbeats 4000000 in
set_option maxRecDepth 100000 in
theorem c_step (l : Launch) (D : va_G) (cI cZ cC cJ : ClassId) (ht tc tw tf tb tl ts tq : Nat) (ch : Nat → Option Nat) (wh : Nat → Bool) (hf : Nat → Nat) (hb : Nat → Nat) (ln : Nat → Nat) (sw : Nat → Option Nat) (od : Nat → Nat) (o : Option Nat) (c : Nat) (hrg : rg ch) (ho : ∀ z, o = some z → z < 211) (hc : c < 65536) : CI l yX5_step wsX5_step { frames := 1, cells := 0, slots := 0, locals := 22 } D vwCl (tys4 cI cZ cC cJ) [.ref ht, .int (oN o), .int (nI c)] [(ht, .inr (5, [.ref tc, .ref tw, .ref tf, .ref tb, .ref tl, .ref ts, .ref tq])), (tc, .inl (cI, 1688, .inl (fun i => oN (ch i)))), (tw, .inl (cZ, 211, .inl (fun i => bI (wh i)))), (tf, .inl (cI, 211, .inl (fun i => nI (hf i)))), (tb, .inl (cI, 211, .inl (fun i => nI (hb i)))), (tl, .inl (cI, 211, .inl (fun i => nI (ln i)))), (ts, .inl (cI, 211, .inl (fun i => oN (sw i)))), (tq, .inl (cI, 211, .inl (fun i => nI (od i))))] ((oN (stp ch o c))) [(ht, .inr (5, [.ref tc, .ref tw, .ref tf, .ref tb, .ref tl, .ref ts, .ref tq])), (tc, .inl (cI, 1688, .inl (fun i => oN (ch i)))), (tw, .inl (cZ, 211, .inl (fun i => bI (wh i)))), (tf, .inl (cI, 211, .inl (fun i => nI (hf i)))), (tb, .inl (cI, 211, .inl (fun i => nI (hb i)))), (tl, .inl (cI, 211, .inl (fun i => nI (ln i)))), (ts, .inl (cI, 211, .inl (fun i => oN (sw i)))), (tq, .inl (cI, 211, .inl (fun i => nI (od i))))] := by
  refine CI.ofV rfl (by decide +kernel) rfl (Nat.le_of_ble_eq_true rfl) ?_
  intro κ x hret
  refine V_iload_n x 2 dX5_step_0 rfl rfl ?_
  refine V_callSNi x (c_letterOf l D cI cZ cC cJ  c (by first | omega | assumption)) 1 (gd0 coX6_letterOf) rfl inX6 stX6_letterOf rfl hdX6_letterOf ⟨Nat.le_of_ble_eq_true rfl, Nat.le_of_ble_eq_true rfl⟩ ⟨rfl, rfl⟩ rfl [] [(ht, .inr (5, [.ref tc, .ref tw, .ref tf, .ref tb, .ref tl, .ref ts, .ref tq])), (tc, .inl (cI, 1688, .inl (fun i => oN (ch i)))), (tw, .inl (cZ, 211, .inl (fun i => bI (wh i)))), (tf, .inl (cI, 211, .inl (fun i => nI (hf i)))), (tb, .inl (cI, 211, .inl (fun i => nI (hb i)))), (tl, .inl (cI, 211, .inl (fun i => nI (ln i)))), (ts, .inl (cI, 211, .inl (fun i => oN (sw i)))), (tq, .inl (cI, 211, .inl (fun i => nI (od i))))] rfl rfl [] rfl rfl [] rfl rfl (rest := []) rfl (Nat.le_of_ble_eq_true rfl) dX5_step_1 ⟨Nat.zero_le _, Nat.zero_le _⟩ ?_
  refine V_istore_n x 3 [(3, .int (oN (ltr c))), (0, .ref ht), (1, .int (oN o)), (2, .int (nI c))] dX5_step_4 rfl (by decide) rfl ?_
  refine V_iload_n x 1 dX5_step_5 rfl rfl ?_
  refine V_iconst (v := (-1)) x dX5_step_6 (by decide +kernel) ?_
  refine V_icmp_eqO x 15 dX5_step_7 rfl (fun z hz => lt31 (ho z hz)) (fun t7 => ?_) (fun z7 f7 => ?_)
  · skip
    simp only [t7, oN_none]
    refine V_iconst (v := (-1)) x dX5_step_15 (by decide +kernel) ?_
    refine V_goto x 25 dX5_step_16 rfl ?_
    refine V.ci (x' := oN (stp ch o c)) (by first | (rw [t7, stp_n]; rfl) | (rw [stp_c f12]; rfl) | (rw [f7, stp_s t12])) ?_
    exact hret _ _ dX5_step_25
  · skip
    simp only [f7, oN_some]
    refine V_iload_n x 3 dX5_step_10 rfl rfl ?_
    refine V_iconst (v := (-1)) x dX5_step_11 (by decide +kernel) ?_
    refine V_icmp_neO x 19 dX5_step_12 rfl (fun z hz => by have := ltr_lt hz; omega) (fun z12 t12 => ?_) (fun f12 => ?_)
    · skip
      simp only [t12, oN_some]
      refine V_aload_n x 0 dX5_step_19 rfl rfl ?_
      refine V_iload_n x 1 dX5_step_20 rfl rfl ?_
      refine V_iload_n x 3 dX5_step_21 rfl rfl ?_
      refine V_callVi x (c_child l D cI cZ cC cJ ht tc tw tf tb tl ts tq ch wh hf hb ln sw od z7 z12 (ho _ f7) (ltr_lt t12)) 2 (gdV mlX5_44 imX5_child seX5_child inX5 coX5_child) rfl hdX5_child ⟨Nat.le_of_ble_eq_true rfl, Nat.le_of_ble_eq_true rfl⟩ ⟨rfl, rfl⟩ 0 rfl rfl rfl [0, 1, 2, 3, 4, 5, 6, 7] [(ht, .inr (5, [.ref tc, .ref tw, .ref tf, .ref tb, .ref tl, .ref ts, .ref tq])), (tc, .inl (cI, 1688, .inl (fun i => oN (ch i)))), (tw, .inl (cZ, 211, .inl (fun i => bI (wh i)))), (tf, .inl (cI, 211, .inl (fun i => nI (hf i)))), (tb, .inl (cI, 211, .inl (fun i => nI (hb i)))), (tl, .inl (cI, 211, .inl (fun i => nI (ln i)))), (ts, .inl (cI, 211, .inl (fun i => oN (sw i)))), (tq, .inl (cI, 211, .inl (fun i => nI (od i))))] rfl rfl [ht, tc, tw, tf, tb, tl, ts, tq] rfl rfl [some 0, some 1, some 2, some 3, some 4, some 5, some 6, some 7] rfl rfl (rest := []) rfl (Nat.le_of_ble_eq_true rfl) dX5_step_22 ⟨Nat.zero_le _, Nat.zero_le _⟩ ?_
      refine V.ci (x' := oN (stp ch o c)) (by first | (rw [t7, stp_n]; rfl) | (rw [stp_c f12]; rfl) | (rw [f7, stp_s t12])) ?_
      exact hret _ _ dX5_step_25
    · skip
      simp only [f12, oN_none]
      refine V_iconst (v := (-1)) x dX5_step_15 (by decide +kernel) ?_
      refine V_goto x 25 dX5_step_16 rfl ?_
      refine V.ci (x' := oN (stp ch o c)) (by first | (rw [t7, stp_n]; rfl) | (rw [stp_c f12]; rfl) | (rw [f7, stp_s t12])) ?_
      exact hret _ _ dX5_step_25
set_option maxHeartbeats 4000000 in
set_option maxRecDepth 100000 in
theorem c_find (l : Launch) (D : va_G) (cI cZ cC cJ : ClassId) (ht tc tw tf tb tl ts tq hr ar : Nat) (ch : Nat → Option Nat) (wh : Nat → Bool) (hf : Nat → Nat) (hb : Nat → Nat) (ln : Nat → Nat) (sw : Nat → Option Nat) (od : Nat → Nat) (m : Nat) (tx : Nat → Nat) (n : Nat) (hrg : rg ch) (hn : n ≤ m) (hm : m < 1000) (htx : ∀ i, tx i < 65536) : CI l yX5_find wsX5_find { frames := 2, cells := 0, slots := 0, locals := 45 } D vwCl (tys4 cI cZ cC cJ) [.ref ht, .ref hr] [(ht, .inr (5, [.ref tc, .ref tw, .ref tf, .ref tb, .ref tl, .ref ts, .ref tq])), (tc, .inl (cI, 1688, .inl (fun i => oN (ch i)))), (tw, .inl (cZ, 211, .inl (fun i => bI (wh i)))), (tf, .inl (cI, 211, .inl (fun i => nI (hf i)))), (tb, .inl (cI, 211, .inl (fun i => nI (hb i)))), (tl, .inl (cI, 211, .inl (fun i => nI (ln i)))), (ts, .inl (cI, 211, .inl (fun i => oN (sw i)))), (tq, .inl (cI, 211, .inl (fun i => nI (od i)))), (hr, .inr (2, [.ref ar, .int (nI n)])), (ar, .inl (cC, m, .inl (fun i => nI (tx i))))] ((oN (fwk ch tx n))) [(ht, .inr (5, [.ref tc, .ref tw, .ref tf, .ref tb, .ref tl, .ref ts, .ref tq])), (tc, .inl (cI, 1688, .inl (fun i => oN (ch i)))), (tw, .inl (cZ, 211, .inl (fun i => bI (wh i)))), (tf, .inl (cI, 211, .inl (fun i => nI (hf i)))), (tb, .inl (cI, 211, .inl (fun i => nI (hb i)))), (tl, .inl (cI, 211, .inl (fun i => nI (ln i)))), (ts, .inl (cI, 211, .inl (fun i => oN (sw i)))), (tq, .inl (cI, 211, .inl (fun i => nI (od i)))), (hr, .inr (2, [.ref ar, .int (nI n)])), (ar, .inl (cC, m, .inl (fun i => nI (tx i))))] := by
  refine CI.ofV rfl (by decide +kernel) rfl (Nat.le_of_ble_eq_true rfl) ?_
  intro κ x hret
  refine V_iconst (v := nI 0) x dX5_find_0 (by decide +kernel) ?_
  refine V_istore_n x 2 [(2, .int (nI 0)), (0, .ref ht), (1, .ref hr)] dX5_find_1 rfl (by decide) rfl ?_
  refine V_iconst (v := nI 0) x dX5_find_2 (by decide +kernel) ?_
  refine V_istore_n x 3 [(3, .int (nI 0)), (2, .int (nI 0)), (0, .ref ht), (1, .ref hr)] dX5_find_3 rfl (by decide) rfl ?_
  have L4 : ∀ (k4 : Nat) (k : Nat) (o1 : Option Nat) (hk : k ≤ n) (e1 : fwk ch tx k = o1) (hk4 : n - k = k4), V κ 0 0 [(ht, .inr (5, [.ref tc, .ref tw, .ref tf, .ref tb, .ref tl, .ref ts, .ref tq])), (tc, .inl (cI, 1688, .inl (fun i => oN (ch i)))), (tw, .inl (cZ, 211, .inl (fun i => bI (wh i)))), (tf, .inl (cI, 211, .inl (fun i => nI (hf i)))), (tb, .inl (cI, 211, .inl (fun i => nI (hb i)))), (tl, .inl (cI, 211, .inl (fun i => nI (ln i)))), (ts, .inl (cI, 211, .inl (fun i => oN (sw i)))), (tq, .inl (cI, 211, .inl (fun i => nI (od i)))), (hr, .inr (2, [.ref ar, .int (nI n)])), (ar, .inl (cC, m, .inl (fun i => nI (tx i))))] 4 [(0, .ref ht), (1, .ref hr), (2, .int (oN o1)), (3, .int (nI k))] [] := by
    intro k4
    induction k4 using Nat.strongRecOn with
    | ind k4 ih4 =>
      intro k o1 hk e1 hk4
      refine V_iload_n x 3 dX5_find_4 rfl rfl ?_
      refine V_aload_n x 1 dX5_find_5 rfl rfl ?_
      refine V_callVi x (c_Line_size l D cI cZ cC cJ hr ar m tx n ) 0 (gdV mlX5_48 imX2_size seX2_size inX2 coX2_size) rfl hdX2_size ⟨Nat.le_of_ble_eq_true rfl, Nat.le_of_ble_eq_true rfl⟩ ⟨rfl, rfl⟩ 8 rfl rfl rfl [8, 9] [(ht, .inr (5, [.ref tc, .ref tw, .ref tf, .ref tb, .ref tl, .ref ts, .ref tq])), (tc, .inl (cI, 1688, .inl (fun i => oN (ch i)))), (tw, .inl (cZ, 211, .inl (fun i => bI (wh i)))), (tf, .inl (cI, 211, .inl (fun i => nI (hf i)))), (tb, .inl (cI, 211, .inl (fun i => nI (hb i)))), (tl, .inl (cI, 211, .inl (fun i => nI (ln i)))), (ts, .inl (cI, 211, .inl (fun i => oN (sw i)))), (tq, .inl (cI, 211, .inl (fun i => nI (od i)))), (hr, .inr (2, [.ref ar, .int (nI n)])), (ar, .inl (cC, m, .inl (fun i => nI (tx i))))] rfl rfl [hr, ar] rfl rfl [none, none, none, none, none, none, none, none, some 0, some 1] rfl rfl (rest := [.int (nI k)]) rfl (Nat.le_of_ble_eq_true rfl) dX5_find_6 ⟨Nat.zero_le _, Nat.zero_le _⟩ ?_
      refine V_icmp_geN x 34 dX5_find_9 rfl (fun t9 => ?_) (fun f9 => ?_)
      · skip
        refine V_iload_n x 2 dX5_find_34 rfl rfl ?_
        refine V.ci (x' := oN (fwk ch tx n)) (by first | (rw [fwk_none (e1.trans t14) (by omega)]; rfl) | (rw [show n = k by omega, e1])) ?_
        exact hret _ _ dX5_find_35
      · skip
        refine V_iload_n x 2 dX5_find_12 rfl rfl ?_
        refine V_iconst (v := (-1)) x dX5_find_13 (by decide +kernel) ?_
        refine V_icmp_eqO x 34 dX5_find_14 rfl (fun z hz => lt31 (fwk_lt hrg (e1.trans hz))) (fun t14 => ?_) (fun z14 f14 => ?_)
        · skip
          simp only [t14, oN_none]
          refine V_iload_n x 2 dX5_find_34 rfl rfl ?_
          refine V.ci (x' := oN (fwk ch tx n)) (by first | (rw [fwk_none (e1.trans t14) (by omega)]; rfl) | (rw [show n = k by omega, e1])) ?_
          exact hret _ _ dX5_find_35
        · skip
          simp only [f14, oN_some]
          refine V_aload_n x 0 dX5_find_17 rfl rfl ?_
          refine V_iload_n x 2 dX5_find_18 rfl rfl ?_
          refine V_aload_n x 1 dX5_find_19 rfl rfl ?_
          refine V_iload_n x 3 dX5_find_20 rfl rfl ?_
          refine V_callVi x (c_Line_at l D cI cZ cC cJ hr ar m tx n k (by first | omega | assumption) (by first | omega | assumption) (by first | omega | assumption) htx) 1 (gdV mlX5_54 imX2_at seX2_at inX2 coX2_at) rfl hdX2_at ⟨Nat.le_of_ble_eq_true rfl, Nat.le_of_ble_eq_true rfl⟩ ⟨rfl, rfl⟩ 8 rfl rfl rfl [8, 9] [(ht, .inr (5, [.ref tc, .ref tw, .ref tf, .ref tb, .ref tl, .ref ts, .ref tq])), (tc, .inl (cI, 1688, .inl (fun i => oN (ch i)))), (tw, .inl (cZ, 211, .inl (fun i => bI (wh i)))), (tf, .inl (cI, 211, .inl (fun i => nI (hf i)))), (tb, .inl (cI, 211, .inl (fun i => nI (hb i)))), (tl, .inl (cI, 211, .inl (fun i => nI (ln i)))), (ts, .inl (cI, 211, .inl (fun i => oN (sw i)))), (tq, .inl (cI, 211, .inl (fun i => nI (od i)))), (hr, .inr (2, [.ref ar, .int (nI n)])), (ar, .inl (cC, m, .inl (fun i => nI (tx i))))] rfl rfl [hr, ar] rfl rfl [none, none, none, none, none, none, none, none, some 0, some 1] rfl rfl (rest := [.int (nI z14), .ref ht]) rfl (Nat.le_of_ble_eq_true rfl) dX5_find_21 ⟨Nat.zero_le _, Nat.zero_le _⟩ ?_
          refine V_callVi x (c_step l D cI cZ cC cJ ht tc tw tf tb tl ts tq ch wh hf hb ln sw od (some z14) (tx k) hrg (fun z hz => by cases hz; exact fwk_lt hrg (e1.trans f14)) (htx _)) 2 (gdV mlX5_58 imX5_step seX5_step inX5 coX5_step) rfl hdX5_step ⟨Nat.le_of_ble_eq_true rfl, Nat.le_of_ble_eq_true rfl⟩ ⟨rfl, rfl⟩ 0 rfl rfl rfl [0, 1, 2, 3, 4, 5, 6, 7] [(ht, .inr (5, [.ref tc, .ref tw, .ref tf, .ref tb, .ref tl, .ref ts, .ref tq])), (tc, .inl (cI, 1688, .inl (fun i => oN (ch i)))), (tw, .inl (cZ, 211, .inl (fun i => bI (wh i)))), (tf, .inl (cI, 211, .inl (fun i => nI (hf i)))), (tb, .inl (cI, 211, .inl (fun i => nI (hb i)))), (tl, .inl (cI, 211, .inl (fun i => nI (ln i)))), (ts, .inl (cI, 211, .inl (fun i => oN (sw i)))), (tq, .inl (cI, 211, .inl (fun i => nI (od i)))), (hr, .inr (2, [.ref ar, .int (nI n)])), (ar, .inl (cC, m, .inl (fun i => nI (tx i))))] rfl rfl [ht, tc, tw, tf, tb, tl, ts, tq] rfl rfl [some 0, some 1, some 2, some 3, some 4, some 5, some 6, some 7] rfl rfl (rest := []) rfl (Nat.le_of_ble_eq_true rfl) dX5_find_24 ⟨Nat.zero_le _, Nat.zero_le _⟩ ?_
          refine V_istore_n x 2 [(2, .int (oN (stp ch (some z14) (tx k)))), (0, .ref ht), (1, .ref hr), (3, .int (nI k))] dX5_find_27 rfl (by decide) rfl ?_
          refine V_iinc x 3 3 [(3, .int (nI (k + 1))), (2, .int (oN (stp ch (some z14) (tx k)))), (0, .ref ht), (1, .ref hr)] dX5_find_28 rfl (iinc_1 _) (by decide) rfl ?_
          refine V_goto x 4 dX5_find_31 rfl ?_
          refine V.sub [2, 3, 1, 0] (lv' := [(0, .ref ht), (1, .ref hr), (2, .int (oN ((stp ch (some z14) (tx k))))), (3, .int (nI ((k + 1))))]) rfl ?_
          exact ih4 (n - (k + 1)) (by omega) (k + 1) (stp ch (some z14) (tx k)) (by omega) (by rw [fwk, e1, f14]) rfl
  refine V.sub [2, 3, 1, 0] (lv' := [(0, .ref ht), (1, .ref hr), (2, .int (oN ((some 0)))), (3, .int (nI 0))]) rfl ?_
  exact L4 _ 0 (some 0) (by omega) rfl rfl
