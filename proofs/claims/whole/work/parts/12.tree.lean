/-! contracts, laid by prog/mk.py -/
set_option maxHeartbeats 4000000 in
set_option maxRecDepth 100000 in
theorem c_trace (l : Launch) (D : va_G) (cI cZ cC cJ : ClassId) (ht tc tw tf tb tl ts tq hr ar ap : Nat) (ch : Nat → Option Nat) (wh : Nat → Bool) (hf : Nat → Nat) (hb : Nat → Nat) (ln : Nat → Nat) (sw : Nat → Option Nat) (od : Nat → Nat) (m : Nat) (tx : Nat → Nat) (n : Nat) (pa : Nat → Nat) (hrg : rg ch) (hn : n ≤ m) (hm : m < 1000) (htx : ∀ i, tx i < 65536) : CI l yX5_trace wsX5_trace { frames := 2, cells := 0, slots := 0, locals := 45 } D vwCl (tys4 cI cZ cC cJ) [.ref ht, .ref hr, .ref ap] [(ht, .inr (5, [.ref tc, .ref tw, .ref tf, .ref tb, .ref tl, .ref ts, .ref tq])), (tc, .inl (cI, 1688, .inl (fun i => oN (ch i)))), (tw, .inl (cZ, 211, .inl (fun i => bI (wh i)))), (tf, .inl (cI, 211, .inl (fun i => nI (hf i)))), (tb, .inl (cI, 211, .inl (fun i => nI (hb i)))), (tl, .inl (cI, 211, .inl (fun i => nI (ln i)))), (ts, .inl (cI, 211, .inl (fun i => oN (sw i)))), (tq, .inl (cI, 211, .inl (fun i => nI (od i)))), (hr, .inr (2, [.ref ar, .int (nI n)])), (ar, .inl (cC, m, .inl (fun i => nI (tx i)))), (ap, .inl (cI, 8, .inl (fun i => nI (pa i))))] ((nI (trc ch tx n n8))) [(ht, .inr (5, [.ref tc, .ref tw, .ref tf, .ref tb, .ref tl, .ref ts, .ref tq])), (tc, .inl (cI, 1688, .inl (fun i => oN (ch i)))), (tw, .inl (cZ, 211, .inl (fun i => bI (wh i)))), (tf, .inl (cI, 211, .inl (fun i => nI (hf i)))), (tb, .inl (cI, 211, .inl (fun i => nI (hb i)))), (tl, .inl (cI, 211, .inl (fun i => nI (ln i)))), (ts, .inl (cI, 211, .inl (fun i => oN (sw i)))), (tq, .inl (cI, 211, .inl (fun i => nI (od i)))), (hr, .inr (2, [.ref ar, .int (nI n)])), (ar, .inl (cC, m, .inl (fun i => nI (tx i)))), (ap, .inl (cI, 8, .inl (fun i => nI ((trp ch tx n pa n8) i))))] := by
  refine CI.ofV rfl (by decide +kernel) rfl (Nat.le_of_ble_eq_true rfl) ?_
  intro κ x hret
  refine V_iconst (v := nI 0) x dX5_trace_0 (by decide +kernel) ?_
  refine V_istore_n x 3 [(3, .int (nI 0)), (0, .ref ht), (1, .ref hr), (2, .ref ap)] dX5_trace_1 rfl (by decide) rfl ?_
  refine V_iconst (v := nI 0) x dX5_trace_2 (by decide +kernel) ?_
  refine V_istore x 4 [(4, .int (nI 0)), (3, .int (nI 0)), (0, .ref ht), (1, .ref hr), (2, .ref ap)] dX5_trace_3 (by decide) rfl ?_
  refine V_iconst (v := nI 0) x dX5_trace_5 (by decide +kernel) ?_
  refine V_istore x 5 [(5, .int (nI 0)), (4, .int (nI 0)), (3, .int (nI 0)), (0, .ref ht), (1, .ref hr), (2, .ref ap)] dX5_trace_6 (by decide) rfl ?_
  have L8 : ∀ (k8 : Nat) (k : Nat) (o1 : Option Nat) (pa1 : Nat → Nat) (hk : k ≤ 8) (e1 : tro ch tx n k = o1) (e2 : trp ch tx n pa k = pa1) (e3 : trc ch tx n k = k) (hk8 : 8 - k = k8), V κ 0 0 [(ht, .inr (5, [.ref tc, .ref tw, .ref tf, .ref tb, .ref tl, .ref ts, .ref tq])), (tc, .inl (cI, 1688, .inl (fun i => oN (ch i)))), (tw, .inl (cZ, 211, .inl (fun i => bI (wh i)))), (tf, .inl (cI, 211, .inl (fun i => nI (hf i)))), (tb, .inl (cI, 211, .inl (fun i => nI (hb i)))), (tl, .inl (cI, 211, .inl (fun i => nI (ln i)))), (ts, .inl (cI, 211, .inl (fun i => oN (sw i)))), (tq, .inl (cI, 211, .inl (fun i => nI (od i)))), (hr, .inr (2, [.ref ar, .int (nI n)])), (ar, .inl (cC, m, .inl (fun i => nI (tx i)))), (ap, .inl (cI, 8, .inl (fun i => nI (pa1 i))))] 8 [(0, .ref ht), (1, .ref hr), (2, .ref ap), (3, .int (nI k)), (4, .int (oN o1)), (5, .int (nI k))] [] := by
    intro k8
    induction k8 using Nat.strongRecOn with
    | ind k8 ih8 =>
      intro k o1 pa1 hk e1 e2 e3 hk8
      refine V_iload x 5 dX5_trace_8 rfl ?_
      refine V_aload_n x 2 dX5_trace_10 rfl rfl ?_
      refine V_alen x 10 0 rfl rfl dX5_trace_11 ?_
      refine V_icmp_geN x 63 dX5_trace_12 rfl (fun t12 => ?_) (fun f12 => ?_)
      · skip
        refine V_iload_n x 3 dX5_trace_63 rfl rfl ?_
        first
        | (have e9 := (Nat.le_antisymm hk t12).trans n8_eq.symm; subst e9; rw [e2, e3] at hret)
        | (rw [(trp_none (pa := pa) (e1.trans t18) (Nat.le_trans hk (Nat.le_of_eq n8_eq.symm))).1, (trp_none (pa := pa) (e1.trans t18) (Nat.le_trans hk (Nat.le_of_eq n8_eq.symm))).2, e2, e3] at hret)
        exact hret _ _ dX5_trace_64
      · skip
        refine V_iload x 4 dX5_trace_15 rfl ?_
        refine V_iconst (v := (-1)) x dX5_trace_17 (by decide +kernel) ?_
        refine V_icmp_eqO x 63 dX5_trace_18 rfl (fun z hz => lt31 (tro_lt hrg (e1.trans hz))) (fun t18 => ?_) (fun z18 f18 => ?_)
        · skip
          simp only [t18, oN_none]
          refine V_iload_n x 3 dX5_trace_63 rfl rfl ?_
          first
          | (have e9 := (Nat.le_antisymm hk t12).trans n8_eq.symm; subst e9; rw [e2, e3] at hret)
          | (rw [(trp_none (pa := pa) (e1.trans t18) (Nat.le_trans hk (Nat.le_of_eq n8_eq.symm))).1, (trp_none (pa := pa) (e1.trans t18) (Nat.le_trans hk (Nat.le_of_eq n8_eq.symm))).2, e2, e3] at hret)
          exact hret _ _ dX5_trace_64
        · skip
          simp only [f18, oN_some]
          refine V_aload_n x 2 dX5_trace_21 rfl rfl ?_
          refine V_iload x 5 dX5_trace_22 rfl ?_
          refine V_iload x 4 dX5_trace_24 rfl ?_
          refine V_iast x 10 0 nI pa1 z18 [(ht, .inr (5, [.ref tc, .ref tw, .ref tf, .ref tb, .ref tl, .ref ts, .ref tq])), (tc, .inl (cI, 1688, .inl (fun i => oN (ch i)))), (tw, .inl (cZ, 211, .inl (fun i => bI (wh i)))), (tf, .inl (cI, 211, .inl (fun i => nI (hf i)))), (tb, .inl (cI, 211, .inl (fun i => nI (hb i)))), (tl, .inl (cI, 211, .inl (fun i => nI (ln i)))), (ts, .inl (cI, 211, .inl (fun i => oN (sw i)))), (tq, .inl (cI, 211, .inl (fun i => nI (od i)))), (hr, .inr (2, [.ref ar, .int (nI n)])), (ar, .inl (cC, m, .inl (fun i => nI (tx i)))), (ap, .inl (cI, 8, .inl (fun i => nI ((va_up pa1 k z18) i))))] rfl rfl dX5_trace_26 (by omega) (by omega) rfl ?_
          refine V_iinc x 3 3 [(3, .int (nI (k + 1))), (0, .ref ht), (1, .ref hr), (2, .ref ap), (4, .int (nI z18)), (5, .int (nI k))] dX5_trace_27 rfl (iinc_1 _) (by decide) rfl ?_
          refine V_iload x 5 dX5_trace_30 rfl ?_
          refine V_aload_n x 1 dX5_trace_32 rfl rfl ?_
          refine V_callVi x (c_Line_size l D cI cZ cC cJ hr ar m tx n ) 0 (gdV mlX5_48 imX2_size seX2_size inX2 coX2_size) rfl hdX2_size ⟨Nat.le_of_ble_eq_true rfl, Nat.le_of_ble_eq_true rfl⟩ ⟨rfl, rfl⟩ 8 rfl rfl rfl [8, 9] [(ht, .inr (5, [.ref tc, .ref tw, .ref tf, .ref tb, .ref tl, .ref ts, .ref tq])), (tc, .inl (cI, 1688, .inl (fun i => oN (ch i)))), (tw, .inl (cZ, 211, .inl (fun i => bI (wh i)))), (tf, .inl (cI, 211, .inl (fun i => nI (hf i)))), (tb, .inl (cI, 211, .inl (fun i => nI (hb i)))), (tl, .inl (cI, 211, .inl (fun i => nI (ln i)))), (ts, .inl (cI, 211, .inl (fun i => oN (sw i)))), (tq, .inl (cI, 211, .inl (fun i => nI (od i)))), (hr, .inr (2, [.ref ar, .int (nI n)])), (ar, .inl (cC, m, .inl (fun i => nI (tx i)))), (ap, .inl (cI, 8, .inl (fun i => nI ((va_up pa1 k z18) i))))] rfl rfl [hr, ar] rfl rfl [none, none, none, none, none, none, none, none, some 0, some 1] rfl rfl (rest := [.int (nI k)]) rfl (Nat.le_of_ble_eq_true rfl) dX5_trace_33 ⟨Nat.zero_le _, Nat.zero_le _⟩ ?_
          refine V_icmp_geN x 54 dX5_trace_36 rfl (fun t36 => ?_) (fun f36 => ?_)
          · skip
            refine V_iconst (v := (-1)) x dX5_trace_54 (by decide +kernel) ?_
            refine V_istore x 4 [(4, .int (-1)), (3, .int (nI (k + 1))), (0, .ref ht), (1, .ref hr), (2, .ref ap), (5, .int (nI k))] dX5_trace_55 (by decide) rfl ?_
            refine V_iinc x 5 5 [(5, .int (nI (k + 1))), (4, .int (-1)), (3, .int (nI (k + 1))), (0, .ref ht), (1, .ref hr), (2, .ref ap)] dX5_trace_57 rfl (iinc_1 _) (by decide) rfl ?_
            refine V_goto x 8 dX5_trace_60 rfl ?_
            refine V.sub [3, 4, 5, 2, 1, 0] (lv' := [(0, .ref ht), (1, .ref hr), (2, .ref ap), (3, .int (nI ((k + 1)))), (4, .int (oN none)), (5, .int (nI ((k + 1))))]) rfl ?_
            exact ih8 (8 - (k + 1)) (by omega) (k + 1) none (va_up pa1 k z18) (by omega) (by first | (rw [tro, if_pos (by omega), e1, f18]) | (rw [tro, if_neg (by omega)])) (by rw [trp, e1, f18, e2]) (by rw [trc, e1, f18]) rfl
          · skip
            refine V_aload_n x 0 dX5_trace_39 rfl rfl ?_
            refine V_iload x 4 dX5_trace_40 rfl ?_
            refine V_aload_n x 1 dX5_trace_42 rfl rfl ?_
            refine V_iload x 5 dX5_trace_43 rfl ?_
            refine V_callVi x (c_Line_at l D cI cZ cC cJ hr ar m tx n k (by first | omega | assumption) (by first | omega | assumption) (by first | omega | assumption) (by first | omega | assumption)) 1 (gdV mlX5_54 imX2_at seX2_at inX2 coX2_at) rfl hdX2_at ⟨Nat.le_of_ble_eq_true rfl, Nat.le_of_ble_eq_true rfl⟩ ⟨rfl, rfl⟩ 8 rfl rfl rfl [8, 9] [(ht, .inr (5, [.ref tc, .ref tw, .ref tf, .ref tb, .ref tl, .ref ts, .ref tq])), (tc, .inl (cI, 1688, .inl (fun i => oN (ch i)))), (tw, .inl (cZ, 211, .inl (fun i => bI (wh i)))), (tf, .inl (cI, 211, .inl (fun i => nI (hf i)))), (tb, .inl (cI, 211, .inl (fun i => nI (hb i)))), (tl, .inl (cI, 211, .inl (fun i => nI (ln i)))), (ts, .inl (cI, 211, .inl (fun i => oN (sw i)))), (tq, .inl (cI, 211, .inl (fun i => nI (od i)))), (hr, .inr (2, [.ref ar, .int (nI n)])), (ar, .inl (cC, m, .inl (fun i => nI (tx i)))), (ap, .inl (cI, 8, .inl (fun i => nI ((va_up pa1 k z18) i))))] rfl rfl [hr, ar] rfl rfl [none, none, none, none, none, none, none, none, some 0, some 1] rfl rfl (rest := [.int (nI z18), .ref ht]) rfl (Nat.le_of_ble_eq_true rfl) dX5_trace_45 ⟨Nat.zero_le _, Nat.zero_le _⟩ ?_
            refine V_callVi x (c_step l D cI cZ cC cJ ht tc tw tf tb tl ts tq ch wh hf hb ln sw od (some z18) (tx k) (by first | omega | assumption) (fun z hz => by cases hz; exact tro_lt hrg (e1.trans f18)) (htx _)) 2 (gdV mlX5_58 imX5_step seX5_step inX5 coX5_step) rfl hdX5_step ⟨Nat.le_of_ble_eq_true rfl, Nat.le_of_ble_eq_true rfl⟩ ⟨rfl, rfl⟩ 0 rfl rfl rfl [0, 1, 2, 3, 4, 5, 6, 7] [(ht, .inr (5, [.ref tc, .ref tw, .ref tf, .ref tb, .ref tl, .ref ts, .ref tq])), (tc, .inl (cI, 1688, .inl (fun i => oN (ch i)))), (tw, .inl (cZ, 211, .inl (fun i => bI (wh i)))), (tf, .inl (cI, 211, .inl (fun i => nI (hf i)))), (tb, .inl (cI, 211, .inl (fun i => nI (hb i)))), (tl, .inl (cI, 211, .inl (fun i => nI (ln i)))), (ts, .inl (cI, 211, .inl (fun i => oN (sw i)))), (tq, .inl (cI, 211, .inl (fun i => nI (od i)))), (hr, .inr (2, [.ref ar, .int (nI n)])), (ar, .inl (cC, m, .inl (fun i => nI (tx i)))), (ap, .inl (cI, 8, .inl (fun i => nI ((va_up pa1 k z18) i))))] rfl rfl [ht, tc, tw, tf, tb, tl, ts, tq] rfl rfl [some 0, some 1, some 2, some 3, some 4, some 5, some 6, some 7] rfl rfl (rest := []) rfl (Nat.le_of_ble_eq_true rfl) dX5_trace_48 ⟨Nat.zero_le _, Nat.zero_le _⟩ ?_
            refine V_goto x 55 dX5_trace_51 rfl ?_
            refine V_istore x 4 [(4, .int (oN (stp ch (some z18) (tx k)))), (3, .int (nI (k + 1))), (0, .ref ht), (1, .ref hr), (2, .ref ap), (5, .int (nI k))] dX5_trace_55 (by decide) rfl ?_
            refine V_iinc x 5 5 [(5, .int (nI (k + 1))), (4, .int (oN (stp ch (some z18) (tx k)))), (3, .int (nI (k + 1))), (0, .ref ht), (1, .ref hr), (2, .ref ap)] dX5_trace_57 rfl (iinc_1 _) (by decide) rfl ?_
            refine V_goto x 8 dX5_trace_60 rfl ?_
            refine V.sub [3, 4, 5, 2, 1, 0] (lv' := [(0, .ref ht), (1, .ref hr), (2, .ref ap), (3, .int (nI ((k + 1)))), (4, .int (oN ((stp ch (some z18) (tx k))))), (5, .int (nI ((k + 1))))]) rfl ?_
            exact ih8 (8 - (k + 1)) (by omega) (k + 1) (stp ch (some z18) (tx k)) (va_up pa1 k z18) (by omega) (by first | (rw [tro, if_pos (by omega), e1, f18]) | (rw [tro, if_neg (by omega)])) (by rw [trp, e1, f18, e2]) (by rw [trc, e1, f18]) rfl
  refine V.sub [3, 4, 5, 2, 1, 0] (lv' := [(0, .ref ht), (1, .ref hr), (2, .ref ap), (3, .int (nI 0)), (4, .int (oN ((some 0)))), (5, .int (nI 0))]) rfl ?_
  exact L8 _ 0 (some 0) pa (by omega) rfl rfl rfl rfl
set_option maxHeartbeats 4000000 in
set_option maxRecDepth 100000 in
theorem c_freeCell (l : Launch) (D : va_G) (cI cZ cC cJ : ClassId) (ht tc tw tf tb tl ts tq : Nat) (ch : Nat → Option Nat) (wh : Nat → Bool) (hf : Nat → Nat) (hb : Nat → Nat) (ln : Nat → Nat) (sw : Nat → Option Nat) (od : Nat → Nat) (hfb : ∀ i, hf i < 1000) : CI l yX5_freeCell wsX5_freeCell { frames := 0, cells := 0, slots := 0, locals := 0 } D vwCl (tys4 cI cZ cC cJ) [.ref ht] [(ht, .inr (5, [.ref tc, .ref tw, .ref tf, .ref tb, .ref tl, .ref ts, .ref tq])), (tc, .inl (cI, 1688, .inl (fun i => oN (ch i)))), (tw, .inl (cZ, 211, .inl (fun i => bI (wh i)))), (tf, .inl (cI, 211, .inl (fun i => nI (hf i)))), (tb, .inl (cI, 211, .inl (fun i => nI (hb i)))), (tl, .inl (cI, 211, .inl (fun i => nI (ln i)))), (ts, .inl (cI, 211, .inl (fun i => oN (sw i)))), (tq, .inl (cI, 211, .inl (fun i => nI (od i))))] ((nI (fcell hf))) [(ht, .inr (5, [.ref tc, .ref tw, .ref tf, .ref tb, .ref tl, .ref ts, .ref tq])), (tc, .inl (cI, 1688, .inl (fun i => oN (ch i)))), (tw, .inl (cZ, 211, .inl (fun i => bI (wh i)))), (tf, .inl (cI, 211, .inl (fun i => nI (hf i)))), (tb, .inl (cI, 211, .inl (fun i => nI (hb i)))), (tl, .inl (cI, 211, .inl (fun i => nI (ln i)))), (ts, .inl (cI, 211, .inl (fun i => oN (sw i)))), (tq, .inl (cI, 211, .inl (fun i => nI (od i))))] := by
  refine CI.ofV rfl (by decide +kernel) rfl (Nat.le_of_ble_eq_true rfl) ?_
  intro κ x hret
  refine V_iconst (v := nI 1) x dX5_freeCell_0 (by decide +kernel) ?_
  refine V_istore_n x 1 [(1, .int (nI 1)), (0, .ref ht)] dX5_freeCell_1 rfl (by decide) rfl ?_
  have L2 : ∀ (k2 : Nat) (k : Nat) (hk : 1 ≤ k ∧ k ≤ 210) (e1 : fcl hf (211 - k) k = fcell hf) (hk2 : 210 - k = k2), V κ 0 0 [(ht, .inr (5, [.ref tc, .ref tw, .ref tf, .ref tb, .ref tl, .ref ts, .ref tq])), (tc, .inl (cI, 1688, .inl (fun i => oN (ch i)))), (tw, .inl (cZ, 211, .inl (fun i => bI (wh i)))), (tf, .inl (cI, 211, .inl (fun i => nI (hf i)))), (tb, .inl (cI, 211, .inl (fun i => nI (hb i)))), (tl, .inl (cI, 211, .inl (fun i => nI (ln i)))), (ts, .inl (cI, 211, .inl (fun i => oN (sw i)))), (tq, .inl (cI, 211, .inl (fun i => nI (od i))))] 2 [(0, .ref ht), (1, .int (nI k))] [] := by
    intro k2
    induction k2 using Nat.strongRecOn with
    | ind k2 ih2 =>
      intro k hk e1 hk2
      refine V_iload_n x 1 dX5_freeCell_2 rfl rfl ?_
      refine V_sipush (v := nI 210) x dX5_freeCell_3 (by decide +kernel) ?_
      refine V_icmp_geN x 24 dX5_freeCell_6 rfl (fun t6 => ?_) (fun f6 => ?_)
      · skip
        refine V_iload_n x 1 dX5_freeCell_24 rfl rfl ?_
        refine V.ci (x' := nI (fcell hf)) (by rw [← e1, fcl_end (by omega)]) ?_
        exact hret _ _ dX5_freeCell_25
      · skip
        refine V_aload_n x 0 dX5_freeCell_9 rfl rfl ?_
        refine V_get x 0 5 2 hinX5 rfl rfl (by decide) flX5_19 rfl dX5_freeCell_10 ?_
        refine V_iload_n x 1 dX5_freeCell_13 rfl rfl ?_
        refine V_iald x 3 0 rfl rfl dX5_freeCell_14 (by omega) (by omega) ?_
        refine V_if_eqN x 24 dX5_freeCell_15 rfl (fun t15 => ?_) (fun f15 => ?_) (by have := hfb k; omega)
        · skip
          refine V_iload_n x 1 dX5_freeCell_24 rfl rfl ?_
          refine V.ci (x' := nI (fcell hf)) (by rw [← e1, fcl_end (by omega)]) ?_
          exact hret _ _ dX5_freeCell_25
        · skip
          refine V_iinc x 1 1 [(1, .int (nI (k + 1))), (0, .ref ht)] dX5_freeCell_18 rfl (iinc_1 _) (by decide) rfl ?_
          refine V_goto x 2 dX5_freeCell_21 rfl ?_
          refine V.sub [1, 0] (lv' := [(0, .ref ht), (1, .int (nI ((k + 1))))]) rfl ?_
          exact ih2 (210 - (k + 1)) (by omega) (k + 1) (by omega) (by rw [← e1, show 211 - k = (211 - (k + 1)) + 1 by omega, fcl_next ⟨by omega, by omega⟩]) rfl
  refine V.sub [1, 0] (lv' := [(0, .ref ht), (1, .int (nI 1))]) rfl ?_
  exact L2 _ 1 (by omega) rfl rfl
set_option maxHeartbeats 4000000 in
set_option maxRecDepth 100000 in
theorem c_grow (l : Launch) (D : va_G) (cI cZ cC cJ : ClassId) (ht tc tw tf tb tl ts tq hr ar : Nat) (ch : Nat → Option Nat) (wh : Nat → Bool) (hf : Nat → Nat) (hb : Nat → Nat) (ln : Nat → Nat) (sw : Nat → Option Nat) (od : Nat → Nat) (m : Nat) (tx : Nat → Nat) (n : Nat) (hrg : rg ch) (hn : n ≤ m) (hm : m < 1000) (hn9 : n ≤ 60) (htx : ∀ i, tx i < 65536) (hlt : ∀ k, k < n → ltr (tx k) ≠ none) (hfb : ∀ i, hf i ≤ 100) : CV l yX5_grow wsX5_grow { frames := 1, cells := 0, slots := 0, locals := 21 } D vwCl (tys4 cI cZ cC cJ) [.ref ht, .ref hr] [(ht, .inr (5, [.ref tc, .ref tw, .ref tf, .ref tb, .ref tl, .ref ts, .ref tq])), (tc, .inl (cI, 1688, .inl (fun i => oN (ch i)))), (tw, .inl (cZ, 211, .inl (fun i => bI (wh i)))), (tf, .inl (cI, 211, .inl (fun i => nI (hf i)))), (tb, .inl (cI, 211, .inl (fun i => nI (hb i)))), (tl, .inl (cI, 211, .inl (fun i => nI (ln i)))), (ts, .inl (cI, 211, .inl (fun i => oN (sw i)))), (tq, .inl (cI, 211, .inl (fun i => nI (od i)))), (hr, .inr (2, [.ref ar, .int (nI n)])), (ar, .inl (cC, m, .inl (fun i => nI (tx i))))] [(ht, .inr (5, [.ref tc, .ref tw, .ref tf, .ref tb, .ref tl, .ref ts, .ref tq])), (tc, .inl (cI, 1688, .inl (fun i => oN (((grw tx ch hf n).2.1) i)))), (tw, .inl (cZ, 211, .inl (fun i => bI ((va_up wh (grw tx ch hf n).1 true) i)))), (tf, .inl (cI, 211, .inl (fun i => nI (((grw tx ch hf n).2.2) i)))), (tb, .inl (cI, 211, .inl (fun i => nI (hb i)))), (tl, .inl (cI, 211, .inl (fun i => nI (ln i)))), (ts, .inl (cI, 211, .inl (fun i => oN (sw i)))), (tq, .inl (cI, 211, .inl (fun i => nI (od i)))), (hr, .inr (2, [.ref ar, .int (nI n)])), (ar, .inl (cC, m, .inl (fun i => nI (tx i))))] := by
  refine CV.ofV (by decide +kernel) rfl (Nat.le_of_ble_eq_true rfl) ?_
  intro κ x hret
  refine V_iconst (v := nI 0) x dX5_grow_0 (by decide +kernel) ?_
  refine V_istore_n x 2 [(2, .int (nI 0)), (0, .ref ht), (1, .ref hr)] dX5_grow_1 rfl (by decide) rfl ?_
  refine V_aload_n x 0 dX5_grow_2 rfl rfl ?_
  refine V_get x 0 5 2 hinX5 rfl rfl (by decide) flX5_19 rfl dX5_grow_3 ?_
  refine V_iconst (v := nI 0) x dX5_grow_6 (by decide +kernel) ?_
  refine V_dup2 x dX5_grow_7 rfl rfl ?_
  refine V_iald x 3 0 rfl rfl dX5_grow_8 (by omega) (by omega) ?_
  refine V_iconst (v := nI 1) x dX5_grow_9 (by decide +kernel) ?_
  refine V_iadd x (nI ((hf 0) + 1)) dX5_grow_10 (nI_add _ _) ?_
  refine V_iast x 3 0 nI hf ((hf 0) + 1) [(ht, .inr (5, [.ref tc, .ref tw, .ref tf, .ref tb, .ref tl, .ref ts, .ref tq])), (tc, .inl (cI, 1688, .inl (fun i => oN (ch i)))), (tw, .inl (cZ, 211, .inl (fun i => bI (wh i)))), (tf, .inl (cI, 211, .inl (fun i => nI ((va_up hf 0 ((hf 0) + 1)) i)))), (tb, .inl (cI, 211, .inl (fun i => nI (hb i)))), (tl, .inl (cI, 211, .inl (fun i => nI (ln i)))), (ts, .inl (cI, 211, .inl (fun i => oN (sw i)))), (tq, .inl (cI, 211, .inl (fun i => nI (od i)))), (hr, .inr (2, [.ref ar, .int (nI n)])), (ar, .inl (cC, m, .inl (fun i => nI (tx i))))] rfl rfl dX5_grow_11 (by omega) (by omega) rfl ?_
  refine V_iconst (v := nI 0) x dX5_grow_12 (by decide +kernel) ?_
  refine V_istore_n x 3 [(3, .int (nI 0)), (2, .int (nI 0)), (0, .ref ht), (1, .ref hr)] dX5_grow_13 rfl (by decide) rfl ?_
  have L14 : ∀ (k14 : Nat) (k : Nat) (p1 : Nat) (ch1 : Nat → Option Nat) (hf1 : Nat → Nat) (hk : k ≤ n) (hp1 : p1 < 211) (hr1 : rg ch1) (hb1 : ∀ i, hf1 i ≤ 101 + k) (e1 : grw tx ch hf k = (p1, ch1, hf1)) (hk14 : n - k = k14), V κ 0 0 [(ht, .inr (5, [.ref tc, .ref tw, .ref tf, .ref tb, .ref tl, .ref ts, .ref tq])), (tc, .inl (cI, 1688, .inl (fun i => oN (ch1 i)))), (tw, .inl (cZ, 211, .inl (fun i => bI (wh i)))), (tf, .inl (cI, 211, .inl (fun i => nI (hf1 i)))), (tb, .inl (cI, 211, .inl (fun i => nI (hb i)))), (tl, .inl (cI, 211, .inl (fun i => nI (ln i)))), (ts, .inl (cI, 211, .inl (fun i => oN (sw i)))), (tq, .inl (cI, 211, .inl (fun i => nI (od i)))), (hr, .inr (2, [.ref ar, .int (nI n)])), (ar, .inl (cC, m, .inl (fun i => nI (tx i))))] 14 [(0, .ref ht), (1, .ref hr), (2, .int (nI p1)), (3, .int (nI k))] [] := by
    intro k14
    induction k14 using Nat.strongRecOn with
    | ind k14 ih14 =>
      intro k p1 ch1 hf1 hk hp1 hr1 hb1 e1 hk14
      refine V_iload_n x 3 dX5_grow_14 rfl rfl ?_
      refine V_aload_n x 1 dX5_grow_15 rfl rfl ?_
      refine V_callVi x (c_Line_size l D cI cZ cC cJ hr ar m tx n ) 0 (gdV mlX5_48 imX2_size seX2_size inX2 coX2_size) rfl hdX2_size ⟨Nat.le_of_ble_eq_true rfl, Nat.le_of_ble_eq_true rfl⟩ ⟨rfl, rfl⟩ 8 rfl rfl rfl [8, 9] [(ht, .inr (5, [.ref tc, .ref tw, .ref tf, .ref tb, .ref tl, .ref ts, .ref tq])), (tc, .inl (cI, 1688, .inl (fun i => oN (ch1 i)))), (tw, .inl (cZ, 211, .inl (fun i => bI (wh i)))), (tf, .inl (cI, 211, .inl (fun i => nI (hf1 i)))), (tb, .inl (cI, 211, .inl (fun i => nI (hb i)))), (tl, .inl (cI, 211, .inl (fun i => nI (ln i)))), (ts, .inl (cI, 211, .inl (fun i => oN (sw i)))), (tq, .inl (cI, 211, .inl (fun i => nI (od i)))), (hr, .inr (2, [.ref ar, .int (nI n)])), (ar, .inl (cC, m, .inl (fun i => nI (tx i))))] rfl rfl [hr, ar] rfl rfl [none, none, none, none, none, none, none, none, some 0, some 1] rfl rfl (rest := [.int (nI k)]) rfl (Nat.le_of_ble_eq_true rfl) dX5_grow_16 ⟨Nat.zero_le _, Nat.zero_le _⟩ ?_
      refine V_icmp_geN x 83 dX5_grow_19 rfl (fun t19 => ?_) (fun f19 => ?_)
      · skip
        refine V_aload_n x 0 dX5_grow_83 rfl rfl ?_
        refine V_get x 0 5 1 hinX5 rfl rfl (by decide) flX5_15 rfl dX5_grow_84 ?_
        refine V_iload_n x 2 dX5_grow_87 rfl rfl ?_
        refine V_iconst (v := nI 1) x dX5_grow_88 (by decide +kernel) ?_
        refine V_zast x 2 1 wh true [(ht, .inr (5, [.ref tc, .ref tw, .ref tf, .ref tb, .ref tl, .ref ts, .ref tq])), (tc, .inl (cI, 1688, .inl (fun i => oN (ch1 i)))), (tw, .inl (cZ, 211, .inl (fun i => bI ((va_up wh p1 true) i)))), (tf, .inl (cI, 211, .inl (fun i => nI (hf1 i)))), (tb, .inl (cI, 211, .inl (fun i => nI (hb i)))), (tl, .inl (cI, 211, .inl (fun i => nI (ln i)))), (ts, .inl (cI, 211, .inl (fun i => oN (sw i)))), (tq, .inl (cI, 211, .inl (fun i => nI (od i)))), (hr, .inr (2, [.ref ar, .int (nI n)])), (ar, .inl (cC, m, .inl (fun i => nI (tx i))))] rfl rfl dX5_grow_89 (by omega) (by omega) rfl ?_
        obtain rfl : k = n := by omega
        rw [e1] at hret
        exact hret _ _ dX5_grow_90
      · skip
        refine V_iload_n x 2 dX5_grow_22 rfl rfl ?_
        refine V_bipush (v := nI 8) x dX5_grow_23 (by decide +kernel) ?_
        refine V_imul x (nI (p1 * 8)) dX5_grow_25 (pk_mul _ _) ?_
        refine V_aload_n x 1 dX5_grow_26 rfl rfl ?_
        refine V_iload_n x 3 dX5_grow_27 rfl rfl ?_
        refine V_callVi x (c_Line_at l D cI cZ cC cJ hr ar m tx n k (by first | omega | assumption) (by first | omega | assumption) (by first | omega | assumption) (by first | omega | assumption)) 1 (gdV mlX5_54 imX2_at seX2_at inX2 coX2_at) rfl hdX2_at ⟨Nat.le_of_ble_eq_true rfl, Nat.le_of_ble_eq_true rfl⟩ ⟨rfl, rfl⟩ 8 rfl rfl rfl [8, 9] [(ht, .inr (5, [.ref tc, .ref tw, .ref tf, .ref tb, .ref tl, .ref ts, .ref tq])), (tc, .inl (cI, 1688, .inl (fun i => oN (ch1 i)))), (tw, .inl (cZ, 211, .inl (fun i => bI (wh i)))), (tf, .inl (cI, 211, .inl (fun i => nI (hf1 i)))), (tb, .inl (cI, 211, .inl (fun i => nI (hb i)))), (tl, .inl (cI, 211, .inl (fun i => nI (ln i)))), (ts, .inl (cI, 211, .inl (fun i => oN (sw i)))), (tq, .inl (cI, 211, .inl (fun i => nI (od i)))), (hr, .inr (2, [.ref ar, .int (nI n)])), (ar, .inl (cC, m, .inl (fun i => nI (tx i))))] rfl rfl [hr, ar] rfl rfl [none, none, none, none, none, none, none, none, some 0, some 1] rfl rfl (rest := [.int (nI (p1 * 8))]) rfl (Nat.le_of_ble_eq_true rfl) dX5_grow_28 ⟨Nat.zero_le _, Nat.zero_le _⟩ ?_
        refine V_callSNi x (c_letterOf l D cI cZ cC cJ  (tx k) (htx _)) 1 (gd0 coX6_letterOf) rfl inX6 stX6_letterOf rfl hdX6_letterOf ⟨Nat.le_of_ble_eq_true rfl, Nat.le_of_ble_eq_true rfl⟩ ⟨rfl, rfl⟩ rfl [] [(ht, .inr (5, [.ref tc, .ref tw, .ref tf, .ref tb, .ref tl, .ref ts, .ref tq])), (tc, .inl (cI, 1688, .inl (fun i => oN (ch1 i)))), (tw, .inl (cZ, 211, .inl (fun i => bI (wh i)))), (tf, .inl (cI, 211, .inl (fun i => nI (hf1 i)))), (tb, .inl (cI, 211, .inl (fun i => nI (hb i)))), (tl, .inl (cI, 211, .inl (fun i => nI (ln i)))), (ts, .inl (cI, 211, .inl (fun i => oN (sw i)))), (tq, .inl (cI, 211, .inl (fun i => nI (od i)))), (hr, .inr (2, [.ref ar, .int (nI n)])), (ar, .inl (cC, m, .inl (fun i => nI (tx i))))] rfl rfl [] rfl rfl [] rfl rfl (rest := [.int (nI (p1 * 8))]) rfl (Nat.le_of_ble_eq_true rfl) dX5_grow_31 ⟨Nat.zero_le _, Nat.zero_le _⟩ ?_
        refine V.ci (x' := nI (lz (tx k))) (lz_eq (hlt k (by omega))) ?_
        refine V_iadd x (nI ((p1 * 8) + (lz (tx k)))) dX5_grow_34 (nI_add _ _) ?_
        refine V_istore x 4 [(4, .int (nI ((p1 * 8) + (lz (tx k))))), (0, .ref ht), (1, .ref hr), (2, .int (nI p1)), (3, .int (nI k))] dX5_grow_35 (by decide) rfl ?_
        refine V_aload_n x 0 dX5_grow_37 rfl rfl ?_
        refine V_get x 0 5 0 hinX5 rfl rfl (by decide) flX5_9 rfl dX5_grow_38 ?_
        refine V_iload x 4 dX5_grow_41 rfl ?_
        refine V_iald x 1 0 rfl rfl dX5_grow_43 (by have := lz_lt (tx k); omega) (by omega) ?_
        refine V_iconst (v := (-1)) x dX5_grow_44 (by decide +kernel) ?_
        refine V_icmp_neO x 59 dX5_grow_45 rfl (fun z hz => lt31 (hr1 _ _ hz)) (fun z45 t45 => ?_) (fun f45 => ?_)
        · skip
          refine V_aload_n x 0 dX5_grow_59 rfl rfl ?_
          refine V_get x 0 5 0 hinX5 rfl rfl (by decide) flX5_9 rfl dX5_grow_60 ?_
          refine V_iload x 4 dX5_grow_63 rfl ?_
          refine V_iald x 1 0 rfl rfl dX5_grow_65 (by have := lz_lt (tx k); omega) (by omega) ?_
          refine V.ci (x' := nI z45) (by rw [t45]; rfl) ?_
          refine V_istore_n x 2 [(2, .int (nI z45)), (4, .int (nI ((p1 * 8) + (lz (tx k))))), (0, .ref ht), (1, .ref hr), (3, .int (nI k))] dX5_grow_66 rfl (by decide) rfl ?_
          refine V_aload_n x 0 dX5_grow_67 rfl rfl ?_
          refine V_get x 0 5 2 hinX5 rfl rfl (by decide) flX5_19 rfl dX5_grow_68 ?_
          refine V_iload_n x 2 dX5_grow_71 rfl rfl ?_
          refine V_dup2 x dX5_grow_72 rfl rfl ?_
          refine V_iald x 3 0 rfl rfl dX5_grow_73 (by first | exact hr1 _ _ t45 | (have := fcell_le hf1; omega)) (by omega) ?_
          refine V_iconst (v := nI 1) x dX5_grow_74 (by decide +kernel) ?_
          refine V_iadd x (nI ((hf1 z45) + 1)) dX5_grow_75 (nI_add _ _) ?_
          refine V_iast x 3 0 nI hf1 ((hf1 z45) + 1) [(ht, .inr (5, [.ref tc, .ref tw, .ref tf, .ref tb, .ref tl, .ref ts, .ref tq])), (tc, .inl (cI, 1688, .inl (fun i => oN (ch1 i)))), (tw, .inl (cZ, 211, .inl (fun i => bI (wh i)))), (tf, .inl (cI, 211, .inl (fun i => nI ((va_up hf1 z45 ((hf1 z45) + 1)) i)))), (tb, .inl (cI, 211, .inl (fun i => nI (hb i)))), (tl, .inl (cI, 211, .inl (fun i => nI (ln i)))), (ts, .inl (cI, 211, .inl (fun i => oN (sw i)))), (tq, .inl (cI, 211, .inl (fun i => nI (od i)))), (hr, .inr (2, [.ref ar, .int (nI n)])), (ar, .inl (cC, m, .inl (fun i => nI (tx i))))] rfl rfl dX5_grow_76 (by first | exact hr1 _ _ t45 | (have := fcell_le hf1; omega)) (by omega) rfl ?_
          refine V_iinc x 3 4 [(3, .int (nI (k + 1))), (2, .int (nI z45)), (4, .int (nI ((p1 * 8) + (lz (tx k))))), (0, .ref ht), (1, .ref hr)] dX5_grow_77 rfl (iinc_1 _) (by decide) rfl ?_
          refine V_goto x 14 dX5_grow_80 rfl ?_
          refine V.sub [3, 4, 1, 0] (lv' := [(0, .ref ht), (1, .ref hr), (2, .int (nI z45)), (3, .int (nI ((k + 1))))]) rfl ?_
          exact ih14 (n - (k + 1)) (by omega) (k + 1) z45 ch1 (va_up hf1 z45 ((hf1 z45) + 1)) (by omega) (by first | exact hr1 _ _ t45 | (have := fcell_le hf1; omega)) (by first | exact hr1 | exact rg_up hr1 (by have := fcell_le hf1; omega)) (up_le hb1 (by omega) (by first | (have := hb1 z45; omega) | (have := hb1 (fcell hf1); omega))) (by rw [grw, e1]; first | simp only [grS, t45] | simp only [grS, f45]) rfl
        · skip
          refine V_aload_n x 0 dX5_grow_48 rfl rfl ?_
          refine V_get x 0 5 0 hinX5 rfl rfl (by decide) flX5_9 rfl dX5_grow_49 ?_
          refine V_iload x 4 dX5_grow_52 rfl ?_
          refine V_aload_n x 0 dX5_grow_54 rfl rfl ?_
          refine V_callVi x (c_freeCell l D cI cZ cC cJ ht tc tw tf tb tl ts tq ch1 wh hf1 hb ln sw od (fun i => by have := hb1 i; omega)) 0 (gdV mlX5_62 imX5_freeCell seX5_freeCell inX5 coX5_freeCell) rfl hdX5_freeCell ⟨Nat.le_of_ble_eq_true rfl, Nat.le_of_ble_eq_true rfl⟩ ⟨rfl, rfl⟩ 0 rfl rfl rfl [0, 1, 2, 3, 4, 5, 6, 7] [(ht, .inr (5, [.ref tc, .ref tw, .ref tf, .ref tb, .ref tl, .ref ts, .ref tq])), (tc, .inl (cI, 1688, .inl (fun i => oN (ch1 i)))), (tw, .inl (cZ, 211, .inl (fun i => bI (wh i)))), (tf, .inl (cI, 211, .inl (fun i => nI (hf1 i)))), (tb, .inl (cI, 211, .inl (fun i => nI (hb i)))), (tl, .inl (cI, 211, .inl (fun i => nI (ln i)))), (ts, .inl (cI, 211, .inl (fun i => oN (sw i)))), (tq, .inl (cI, 211, .inl (fun i => nI (od i)))), (hr, .inr (2, [.ref ar, .int (nI n)])), (ar, .inl (cC, m, .inl (fun i => nI (tx i))))] rfl rfl [ht, tc, tw, tf, tb, tl, ts, tq] rfl rfl [some 0, some 1, some 2, some 3, some 4, some 5, some 6, some 7] rfl rfl (rest := [.int (nI ((p1 * 8) + (lz (tx k)))), .ref tc]) rfl (Nat.le_of_ble_eq_true rfl) dX5_grow_55 ⟨Nat.zero_le _, Nat.zero_le _⟩ ?_
          refine V_iast x 1 0 oN ch1 (some (fcell hf1)) [(ht, .inr (5, [.ref tc, .ref tw, .ref tf, .ref tb, .ref tl, .ref ts, .ref tq])), (tc, .inl (cI, 1688, .inl (fun i => oN ((va_up ch1 ((p1 * 8) + (lz (tx k))) (some (fcell hf1))) i)))), (tw, .inl (cZ, 211, .inl (fun i => bI (wh i)))), (tf, .inl (cI, 211, .inl (fun i => nI (hf1 i)))), (tb, .inl (cI, 211, .inl (fun i => nI (hb i)))), (tl, .inl (cI, 211, .inl (fun i => nI (ln i)))), (ts, .inl (cI, 211, .inl (fun i => oN (sw i)))), (tq, .inl (cI, 211, .inl (fun i => nI (od i)))), (hr, .inr (2, [.ref ar, .int (nI n)])), (ar, .inl (cC, m, .inl (fun i => nI (tx i))))] rfl rfl dX5_grow_58 (by have := lz_lt (tx k); omega) (by omega) rfl ?_
          refine V_aload_n x 0 dX5_grow_59 rfl rfl ?_
          refine V_get x 0 5 0 hinX5 rfl rfl (by decide) flX5_9 rfl dX5_grow_60 ?_
          refine V_iload x 4 dX5_grow_63 rfl ?_
          refine V_iald x 1 0 rfl rfl dX5_grow_65 (by have := lz_lt (tx k); omega) (by omega) ?_
          refine V.ci (x' := nI (fcell hf1)) (by rw [va_up_self]; rfl) ?_
          refine V_istore_n x 2 [(2, .int (nI (fcell hf1))), (4, .int (nI ((p1 * 8) + (lz (tx k))))), (0, .ref ht), (1, .ref hr), (3, .int (nI k))] dX5_grow_66 rfl (by decide) rfl ?_
          refine V_aload_n x 0 dX5_grow_67 rfl rfl ?_
          refine V_get x 0 5 2 hinX5 rfl rfl (by decide) flX5_19 rfl dX5_grow_68 ?_
          refine V_iload_n x 2 dX5_grow_71 rfl rfl ?_
          refine V_dup2 x dX5_grow_72 rfl rfl ?_
          refine V_iald x 3 0 rfl rfl dX5_grow_73 (by first | exact hr1 _ _ t45 | (have := fcell_le hf1; omega)) (by omega) ?_
          refine V_iconst (v := nI 1) x dX5_grow_74 (by decide +kernel) ?_
          refine V_iadd x (nI ((hf1 (fcell hf1)) + 1)) dX5_grow_75 (nI_add _ _) ?_
          refine V_iast x 3 0 nI hf1 ((hf1 (fcell hf1)) + 1) [(ht, .inr (5, [.ref tc, .ref tw, .ref tf, .ref tb, .ref tl, .ref ts, .ref tq])), (tc, .inl (cI, 1688, .inl (fun i => oN ((va_up ch1 ((p1 * 8) + (lz (tx k))) (some (fcell hf1))) i)))), (tw, .inl (cZ, 211, .inl (fun i => bI (wh i)))), (tf, .inl (cI, 211, .inl (fun i => nI ((va_up hf1 (fcell hf1) ((hf1 (fcell hf1)) + 1)) i)))), (tb, .inl (cI, 211, .inl (fun i => nI (hb i)))), (tl, .inl (cI, 211, .inl (fun i => nI (ln i)))), (ts, .inl (cI, 211, .inl (fun i => oN (sw i)))), (tq, .inl (cI, 211, .inl (fun i => nI (od i)))), (hr, .inr (2, [.ref ar, .int (nI n)])), (ar, .inl (cC, m, .inl (fun i => nI (tx i))))] rfl rfl dX5_grow_76 (by first | exact hr1 _ _ t45 | (have := fcell_le hf1; omega)) (by omega) rfl ?_
          refine V_iinc x 3 4 [(3, .int (nI (k + 1))), (2, .int (nI (fcell hf1))), (4, .int (nI ((p1 * 8) + (lz (tx k))))), (0, .ref ht), (1, .ref hr)] dX5_grow_77 rfl (iinc_1 _) (by decide) rfl ?_
          refine V_goto x 14 dX5_grow_80 rfl ?_
          refine V.sub [3, 4, 1, 0] (lv' := [(0, .ref ht), (1, .ref hr), (2, .int (nI ((fcell hf1)))), (3, .int (nI ((k + 1))))]) rfl ?_
          exact ih14 (n - (k + 1)) (by omega) (k + 1) (fcell hf1) (va_up ch1 ((p1 * 8) + (lz (tx k))) (some (fcell hf1))) (va_up hf1 (fcell hf1) ((hf1 (fcell hf1)) + 1)) (by omega) (by first | exact hr1 _ _ t45 | (have := fcell_le hf1; omega)) (by first | exact hr1 | exact rg_up hr1 (by have := fcell_le hf1; omega)) (up_le hb1 (by omega) (by first | (have := hb1 z45; omega) | (have := hb1 (fcell hf1); omega))) (by rw [grw, e1]; first | simp only [grS, t45] | simp only [grS, f45]) rfl
  refine V.sub [2, 3, 1, 0] (lv' := [(0, .ref ht), (1, .ref hr), (2, .int (nI 0)), (3, .int (nI 0))]) rfl ?_
  exact L14 _ 0 0 ch (va_up hf 0 (hf 0 + 1)) (by omega) (by omega) hrg (up_le hfb (by omega) (by have := hfb 0; omega)) rfl rfl
set_option maxHeartbeats 4000000 in
set_option maxRecDepth 100000 in
theorem c_cut (l : Launch) (D : va_G) (cI cZ cC cJ : ClassId) (ht tc tw tf tb tl ts tq hr ar : Nat) (ch : Nat → Option Nat) (wh : Nat → Bool) (hf : Nat → Nat) (hb : Nat → Nat) (ln : Nat → Nat) (sw : Nat → Option Nat) (od : Nat → Nat) (m : Nat) (tx : Nat → Nat) (n : Nat) (hrg : rg ch) (hn : n ≤ m) (hm : m < 1000) (hn9 : n ≤ 60) (htx : ∀ i, tx i < 65536) (hlt : ∀ k, k < n → ltr (tx k) ≠ none) (hfb : ∀ i, hf i ≤ 100) (h0 : 1 ≤ hf 0) (hok : ∀ k, k < n → ∃ q, (ctw tx ch hf k).2.1 ((ctw tx ch hf k).1 * 8 + lz (tx k)) = some q ∧ 1 ≤ (ctw tx ch hf k).2.2 q) : CV l yX5_cut wsX5_cut { frames := 1, cells := 0, slots := 0, locals := 21 } D vwCl (tys4 cI cZ cC cJ) [.ref ht, .ref hr] [(ht, .inr (5, [.ref tc, .ref tw, .ref tf, .ref tb, .ref tl, .ref ts, .ref tq])), (tc, .inl (cI, 1688, .inl (fun i => oN (ch i)))), (tw, .inl (cZ, 211, .inl (fun i => bI (wh i)))), (tf, .inl (cI, 211, .inl (fun i => nI (hf i)))), (tb, .inl (cI, 211, .inl (fun i => nI (hb i)))), (tl, .inl (cI, 211, .inl (fun i => nI (ln i)))), (ts, .inl (cI, 211, .inl (fun i => oN (sw i)))), (tq, .inl (cI, 211, .inl (fun i => nI (od i)))), (hr, .inr (2, [.ref ar, .int (nI n)])), (ar, .inl (cC, m, .inl (fun i => nI (tx i))))] [(ht, .inr (5, [.ref tc, .ref tw, .ref tf, .ref tb, .ref tl, .ref ts, .ref tq])), (tc, .inl (cI, 1688, .inl (fun i => oN (((ctw tx ch hf n).2.1) i)))), (tw, .inl (cZ, 211, .inl (fun i => bI ((va_up wh (ctw tx ch hf n).1 false) i)))), (tf, .inl (cI, 211, .inl (fun i => nI (((ctw tx ch hf n).2.2) i)))), (tb, .inl (cI, 211, .inl (fun i => nI (hb i)))), (tl, .inl (cI, 211, .inl (fun i => nI (ln i)))), (ts, .inl (cI, 211, .inl (fun i => oN (sw i)))), (tq, .inl (cI, 211, .inl (fun i => nI (od i)))), (hr, .inr (2, [.ref ar, .int (nI n)])), (ar, .inl (cC, m, .inl (fun i => nI (tx i))))] := by
  refine CV.ofV (by decide +kernel) rfl (Nat.le_of_ble_eq_true rfl) ?_
  intro κ x hret
  refine V_iconst (v := nI 0) x dX5_cut_0 (by decide +kernel) ?_
  refine V_istore_n x 2 [(2, .int (nI 0)), (0, .ref ht), (1, .ref hr)] dX5_cut_1 rfl (by decide) rfl ?_
  refine V_aload_n x 0 dX5_cut_2 rfl rfl ?_
  refine V_get x 0 5 2 hinX5 rfl rfl (by decide) flX5_19 rfl dX5_cut_3 ?_
  refine V_iconst (v := nI 0) x dX5_cut_6 (by decide +kernel) ?_
  refine V_dup2 x dX5_cut_7 rfl rfl ?_
  refine V_iald x 3 0 rfl rfl dX5_cut_8 (by omega) (by omega) ?_
  refine V_iconst (v := nI 1) x dX5_cut_9 (by decide +kernel) ?_
  refine V_isub x (nI ((hf 0) - 1)) dX5_cut_10 (pk_sub (by omega)) ?_
  refine V_iast x 3 0 nI hf ((hf 0) - 1) [(ht, .inr (5, [.ref tc, .ref tw, .ref tf, .ref tb, .ref tl, .ref ts, .ref tq])), (tc, .inl (cI, 1688, .inl (fun i => oN (ch i)))), (tw, .inl (cZ, 211, .inl (fun i => bI (wh i)))), (tf, .inl (cI, 211, .inl (fun i => nI ((va_up hf 0 ((hf 0) - 1)) i)))), (tb, .inl (cI, 211, .inl (fun i => nI (hb i)))), (tl, .inl (cI, 211, .inl (fun i => nI (ln i)))), (ts, .inl (cI, 211, .inl (fun i => oN (sw i)))), (tq, .inl (cI, 211, .inl (fun i => nI (od i)))), (hr, .inr (2, [.ref ar, .int (nI n)])), (ar, .inl (cC, m, .inl (fun i => nI (tx i))))] rfl rfl dX5_cut_11 (by omega) (by omega) rfl ?_
  refine V_iconst (v := nI 0) x dX5_cut_12 (by decide +kernel) ?_
  refine V_istore_n x 3 [(3, .int (nI 0)), (2, .int (nI 0)), (0, .ref ht), (1, .ref hr)] dX5_cut_13 rfl (by decide) rfl ?_
  have L14 : ∀ (k14 : Nat) (k : Nat) (p1 : Nat) (ch1 : Nat → Option Nat) (hf1 : Nat → Nat) (hk : k ≤ n) (hp1 : p1 < 211) (hr1 : rg ch1) (hb1 : ∀ i, hf1 i ≤ 100) (e1 : ctw tx ch hf k = (p1, ch1, hf1)) (hk14 : n - k = k14), V κ 0 0 [(ht, .inr (5, [.ref tc, .ref tw, .ref tf, .ref tb, .ref tl, .ref ts, .ref tq])), (tc, .inl (cI, 1688, .inl (fun i => oN (ch1 i)))), (tw, .inl (cZ, 211, .inl (fun i => bI (wh i)))), (tf, .inl (cI, 211, .inl (fun i => nI (hf1 i)))), (tb, .inl (cI, 211, .inl (fun i => nI (hb i)))), (tl, .inl (cI, 211, .inl (fun i => nI (ln i)))), (ts, .inl (cI, 211, .inl (fun i => oN (sw i)))), (tq, .inl (cI, 211, .inl (fun i => nI (od i)))), (hr, .inr (2, [.ref ar, .int (nI n)])), (ar, .inl (cC, m, .inl (fun i => nI (tx i))))] 14 [(0, .ref ht), (1, .ref hr), (2, .int (nI p1)), (3, .int (nI k))] [] := by
    intro k14
    induction k14 using Nat.strongRecOn with
    | ind k14 ih14 =>
      intro k p1 ch1 hf1 hk hp1 hr1 hb1 e1 hk14
      refine V_iload_n x 3 dX5_cut_14 rfl rfl ?_
      refine V_aload_n x 1 dX5_cut_15 rfl rfl ?_
      refine V_callVi x (c_Line_size l D cI cZ cC cJ hr ar m tx n ) 0 (gdV mlX5_48 imX2_size seX2_size inX2 coX2_size) rfl hdX2_size ⟨Nat.le_of_ble_eq_true rfl, Nat.le_of_ble_eq_true rfl⟩ ⟨rfl, rfl⟩ 8 rfl rfl rfl [8, 9] [(ht, .inr (5, [.ref tc, .ref tw, .ref tf, .ref tb, .ref tl, .ref ts, .ref tq])), (tc, .inl (cI, 1688, .inl (fun i => oN (ch1 i)))), (tw, .inl (cZ, 211, .inl (fun i => bI (wh i)))), (tf, .inl (cI, 211, .inl (fun i => nI (hf1 i)))), (tb, .inl (cI, 211, .inl (fun i => nI (hb i)))), (tl, .inl (cI, 211, .inl (fun i => nI (ln i)))), (ts, .inl (cI, 211, .inl (fun i => oN (sw i)))), (tq, .inl (cI, 211, .inl (fun i => nI (od i)))), (hr, .inr (2, [.ref ar, .int (nI n)])), (ar, .inl (cC, m, .inl (fun i => nI (tx i))))] rfl rfl [hr, ar] rfl rfl [none, none, none, none, none, none, none, none, some 0, some 1] rfl rfl (rest := [.int (nI k)]) rfl (Nat.le_of_ble_eq_true rfl) dX5_cut_16 ⟨Nat.zero_le _, Nat.zero_le _⟩ ?_
      refine V_icmp_geN x 78 dX5_cut_19 rfl (fun t19 => ?_) (fun f19 => ?_)
      · skip
        refine V_aload_n x 0 dX5_cut_78 rfl rfl ?_
        refine V_get x 0 5 1 hinX5 rfl rfl (by decide) flX5_15 rfl dX5_cut_79 ?_
        refine V_iload_n x 2 dX5_cut_82 rfl rfl ?_
        refine V_iconst (v := nI 0) x dX5_cut_83 (by decide +kernel) ?_
        refine V_zast x 2 1 wh false [(ht, .inr (5, [.ref tc, .ref tw, .ref tf, .ref tb, .ref tl, .ref ts, .ref tq])), (tc, .inl (cI, 1688, .inl (fun i => oN (ch1 i)))), (tw, .inl (cZ, 211, .inl (fun i => bI ((va_up wh p1 false) i)))), (tf, .inl (cI, 211, .inl (fun i => nI (hf1 i)))), (tb, .inl (cI, 211, .inl (fun i => nI (hb i)))), (tl, .inl (cI, 211, .inl (fun i => nI (ln i)))), (ts, .inl (cI, 211, .inl (fun i => oN (sw i)))), (tq, .inl (cI, 211, .inl (fun i => nI (od i)))), (hr, .inr (2, [.ref ar, .int (nI n)])), (ar, .inl (cC, m, .inl (fun i => nI (tx i))))] rfl rfl dX5_cut_84 (by omega) (by omega) rfl ?_
        obtain rfl : k = n := by omega
        rw [e1] at hret
        exact hret _ _ dX5_cut_85
      · skip
        have hok1 := hok k (by omega)
        rw [e1] at hok1
        obtain ⟨q, hq1, hq2⟩ := hok1
        replace hq1 : ch1 (p1 * 8 + lz (tx k)) = some q := hq1
        replace hq2 : 1 ≤ hf1 q := hq2
        refine V_iload_n x 2 dX5_cut_22 rfl rfl ?_
        refine V_bipush (v := nI 8) x dX5_cut_23 (by decide +kernel) ?_
        refine V_imul x (nI (p1 * 8)) dX5_cut_25 (pk_mul _ _) ?_
        refine V_aload_n x 1 dX5_cut_26 rfl rfl ?_
        refine V_iload_n x 3 dX5_cut_27 rfl rfl ?_
        refine V_callVi x (c_Line_at l D cI cZ cC cJ hr ar m tx n k (by first | omega | assumption) (by first | omega | assumption) (by first | omega | assumption) (by first | omega | assumption)) 1 (gdV mlX5_54 imX2_at seX2_at inX2 coX2_at) rfl hdX2_at ⟨Nat.le_of_ble_eq_true rfl, Nat.le_of_ble_eq_true rfl⟩ ⟨rfl, rfl⟩ 8 rfl rfl rfl [8, 9] [(ht, .inr (5, [.ref tc, .ref tw, .ref tf, .ref tb, .ref tl, .ref ts, .ref tq])), (tc, .inl (cI, 1688, .inl (fun i => oN (ch1 i)))), (tw, .inl (cZ, 211, .inl (fun i => bI (wh i)))), (tf, .inl (cI, 211, .inl (fun i => nI (hf1 i)))), (tb, .inl (cI, 211, .inl (fun i => nI (hb i)))), (tl, .inl (cI, 211, .inl (fun i => nI (ln i)))), (ts, .inl (cI, 211, .inl (fun i => oN (sw i)))), (tq, .inl (cI, 211, .inl (fun i => nI (od i)))), (hr, .inr (2, [.ref ar, .int (nI n)])), (ar, .inl (cC, m, .inl (fun i => nI (tx i))))] rfl rfl [hr, ar] rfl rfl [none, none, none, none, none, none, none, none, some 0, some 1] rfl rfl (rest := [.int (nI (p1 * 8))]) rfl (Nat.le_of_ble_eq_true rfl) dX5_cut_28 ⟨Nat.zero_le _, Nat.zero_le _⟩ ?_
        refine V_callSNi x (c_letterOf l D cI cZ cC cJ  (tx k) (htx _)) 1 (gd0 coX6_letterOf) rfl inX6 stX6_letterOf rfl hdX6_letterOf ⟨Nat.le_of_ble_eq_true rfl, Nat.le_of_ble_eq_true rfl⟩ ⟨rfl, rfl⟩ rfl [] [(ht, .inr (5, [.ref tc, .ref tw, .ref tf, .ref tb, .ref tl, .ref ts, .ref tq])), (tc, .inl (cI, 1688, .inl (fun i => oN (ch1 i)))), (tw, .inl (cZ, 211, .inl (fun i => bI (wh i)))), (tf, .inl (cI, 211, .inl (fun i => nI (hf1 i)))), (tb, .inl (cI, 211, .inl (fun i => nI (hb i)))), (tl, .inl (cI, 211, .inl (fun i => nI (ln i)))), (ts, .inl (cI, 211, .inl (fun i => oN (sw i)))), (tq, .inl (cI, 211, .inl (fun i => nI (od i)))), (hr, .inr (2, [.ref ar, .int (nI n)])), (ar, .inl (cC, m, .inl (fun i => nI (tx i))))] rfl rfl [] rfl rfl [] rfl rfl (rest := [.int (nI (p1 * 8))]) rfl (Nat.le_of_ble_eq_true rfl) dX5_cut_31 ⟨Nat.zero_le _, Nat.zero_le _⟩ ?_
        refine V.ci (x' := nI (lz (tx k))) (lz_eq (hlt k (by omega))) ?_
        refine V_iadd x (nI ((p1 * 8) + (lz (tx k)))) dX5_cut_34 (nI_add _ _) ?_
        refine V_istore x 4 [(4, .int (nI ((p1 * 8) + (lz (tx k))))), (0, .ref ht), (1, .ref hr), (2, .int (nI p1)), (3, .int (nI k))] dX5_cut_35 (by decide) rfl ?_
        refine V_aload_n x 0 dX5_cut_37 rfl rfl ?_
        refine V_get x 0 5 0 hinX5 rfl rfl (by decide) flX5_9 rfl dX5_cut_38 ?_
        refine V_iload x 4 dX5_cut_41 rfl ?_
        refine V_iald x 1 0 rfl rfl dX5_cut_43 (by have := lz_lt (tx k); omega) (by omega) ?_
        refine V.ci (x' := nI q) (by rw [hq1]; rfl) ?_
        refine V_istore_n x 2 [(2, .int (nI q)), (4, .int (nI ((p1 * 8) + (lz (tx k))))), (0, .ref ht), (1, .ref hr), (3, .int (nI k))] dX5_cut_44 rfl (by decide) rfl ?_
        refine V_aload_n x 0 dX5_cut_45 rfl rfl ?_
        refine V_get x 0 5 2 hinX5 rfl rfl (by decide) flX5_19 rfl dX5_cut_46 ?_
        refine V_iload_n x 2 dX5_cut_49 rfl rfl ?_
        refine V_dup2 x dX5_cut_50 rfl rfl ?_
        refine V_iald x 3 0 rfl rfl dX5_cut_51 (hr1 _ _ hq1) (by omega) ?_
        refine V_iconst (v := nI 1) x dX5_cut_52 (by decide +kernel) ?_
        refine V_isub x (nI ((hf1 q) - 1)) dX5_cut_53 (pk_sub (by omega)) ?_
        refine V_iast x 3 0 nI hf1 ((hf1 q) - 1) [(ht, .inr (5, [.ref tc, .ref tw, .ref tf, .ref tb, .ref tl, .ref ts, .ref tq])), (tc, .inl (cI, 1688, .inl (fun i => oN (ch1 i)))), (tw, .inl (cZ, 211, .inl (fun i => bI (wh i)))), (tf, .inl (cI, 211, .inl (fun i => nI ((va_up hf1 q ((hf1 q) - 1)) i)))), (tb, .inl (cI, 211, .inl (fun i => nI (hb i)))), (tl, .inl (cI, 211, .inl (fun i => nI (ln i)))), (ts, .inl (cI, 211, .inl (fun i => oN (sw i)))), (tq, .inl (cI, 211, .inl (fun i => nI (od i)))), (hr, .inr (2, [.ref ar, .int (nI n)])), (ar, .inl (cC, m, .inl (fun i => nI (tx i))))] rfl rfl dX5_cut_54 (hr1 _ _ hq1) (by omega) rfl ?_
        refine V_aload_n x 0 dX5_cut_55 rfl rfl ?_
        refine V_get x 0 5 2 hinX5 rfl rfl (by decide) flX5_19 rfl dX5_cut_56 ?_
        refine V_iload_n x 2 dX5_cut_59 rfl rfl ?_
        refine V_iald x 3 0 rfl rfl dX5_cut_60 (hr1 _ _ hq1) (by omega) ?_
        refine V_if_neN x 72 dX5_cut_61 rfl (fun t61 => ?_) (fun f61 => ?_) (by have := up_le (k := q) (v := hf1 q - 1) hb1 (show 100 ≤ 100 by omega) (by have := hb1 q; omega) q; omega)
        · skip
          refine V_iinc x 3 4 [(3, .int (nI (k + 1))), (2, .int (nI q)), (4, .int (nI ((p1 * 8) + (lz (tx k))))), (0, .ref ht), (1, .ref hr)] dX5_cut_72 rfl (iinc_1 _) (by decide) rfl ?_
          refine V_goto x 14 dX5_cut_75 rfl ?_
          refine V.sub [3, 4, 1, 0] (lv' := [(0, .ref ht), (1, .ref hr), (2, .int (nI q)), (3, .int (nI ((k + 1))))]) rfl ?_
          exact ih14 (n - (k + 1)) (by omega) (k + 1) q ch1 (va_up hf1 q ((hf1 q) - 1)) (by omega) (hr1 _ _ hq1) (by first | exact hr1 | exact rg_upN hr1) (up_le hb1 (by omega) (by have := hb1 q; omega)) (by rw [ctw, e1]; unfold ctS; simp only [hq1, Option.getD_some]; first | rw [if_pos (by omega)] | rw [if_neg (by omega)]) rfl
        · skip
          refine V_aload_n x 0 dX5_cut_64 rfl rfl ?_
          refine V_get x 0 5 0 hinX5 rfl rfl (by decide) flX5_9 rfl dX5_cut_65 ?_
          refine V_iload x 4 dX5_cut_68 rfl ?_
          refine V_iconst (v := (-1)) x dX5_cut_70 (by decide +kernel) ?_
          refine V_iast x 1 0 oN ch1 none [(ht, .inr (5, [.ref tc, .ref tw, .ref tf, .ref tb, .ref tl, .ref ts, .ref tq])), (tc, .inl (cI, 1688, .inl (fun i => oN ((va_up ch1 ((p1 * 8) + (lz (tx k))) none) i)))), (tw, .inl (cZ, 211, .inl (fun i => bI (wh i)))), (tf, .inl (cI, 211, .inl (fun i => nI ((va_up hf1 q ((hf1 q) - 1)) i)))), (tb, .inl (cI, 211, .inl (fun i => nI (hb i)))), (tl, .inl (cI, 211, .inl (fun i => nI (ln i)))), (ts, .inl (cI, 211, .inl (fun i => oN (sw i)))), (tq, .inl (cI, 211, .inl (fun i => nI (od i)))), (hr, .inr (2, [.ref ar, .int (nI n)])), (ar, .inl (cC, m, .inl (fun i => nI (tx i))))] rfl rfl dX5_cut_71 (by have := lz_lt (tx k); omega) (by omega) rfl ?_
          refine V_iinc x 3 4 [(3, .int (nI (k + 1))), (2, .int (nI q)), (4, .int (nI ((p1 * 8) + (lz (tx k))))), (0, .ref ht), (1, .ref hr)] dX5_cut_72 rfl (iinc_1 _) (by decide) rfl ?_
          refine V_goto x 14 dX5_cut_75 rfl ?_
          refine V.sub [3, 4, 1, 0] (lv' := [(0, .ref ht), (1, .ref hr), (2, .int (nI q)), (3, .int (nI ((k + 1))))]) rfl ?_
          exact ih14 (n - (k + 1)) (by omega) (k + 1) q (va_up ch1 ((p1 * 8) + (lz (tx k))) none) (va_up hf1 q ((hf1 q) - 1)) (by omega) (hr1 _ _ hq1) (by first | exact hr1 | exact rg_upN hr1) (up_le hb1 (by omega) (by have := hb1 q; omega)) (by rw [ctw, e1]; unfold ctS; simp only [hq1, Option.getD_some]; first | rw [if_pos (by omega)] | rw [if_neg (by omega)]) rfl
  refine V.sub [2, 3, 1, 0] (lv' := [(0, .ref ht), (1, .ref hr), (2, .int (nI 0)), (3, .int (nI 0))]) rfl ?_
  exact L14 _ 0 0 ch (va_up hf 0 (hf 0 - 1)) (by omega) (by omega) hrg (up_le hfb (by omega) (by have := hfb 0; omega)) rfl rfl
