/-! contracts, laid by prog/mk.py -/
set_option maxHeartbeats 4000000 in
set_option maxRecDepth 100000 in
theorem c_countFrom (l : Launch) (D : va_G) (cI cZ cC cJ : ClassId) (hS sw1 sw2 sw3 hr ar ht tc tw tf tb tl ts tq : Nat) (wy : Nat → Int64) (fw : Nat → Option Nat) (fe : Nat → Nat) (m : Nat) (tx : Nat → Nat) (n : Nat) (ch : Nat → Option Nat) (wh : Nat → Bool) (hf : Nat → Nat) (hb : Nat → Nat) (ln : Nat → Nat) (sw : Nat → Option Nat) (od : Nat → Nat) (b : Nat) (hrg : rg ch) (hn : n ≤ m) (hm : m < 1000) (htx : ∀ i, tx i < 65536) (hn60 : n ≤ 60) (hbn : b < n) : CV l yX4_countFrom wsX4_countFrom { frames := 2, cells := 0, slots := 0, locals := 45 } D vwCl (tys4 cI cZ cC cJ) [.ref hS, .int (nI b), .ref hr, .ref ht] [(hS, .inr (4, [.ref sw1, .ref sw2, .ref sw3])), (sw1, .inl (cJ, 61, .inr (.inl wy))), (sw2, .inl (cI, 61, .inl (fun i => oN (fw i)))), (sw3, .inl (cI, 61, .inl (fun i => nI (fe i)))), (hr, .inr (2, [.ref ar, .int (nI n)])), (ar, .inl (cC, m, .inl (fun i => nI (tx i)))), (ht, .inr (5, [.ref tc, .ref tw, .ref tf, .ref tb, .ref tl, .ref ts, .ref tq])), (tc, .inl (cI, 1688, .inl (fun i => oN (ch i)))), (tw, .inl (cZ, 211, .inl (fun i => bI (wh i)))), (tf, .inl (cI, 211, .inl (fun i => nI (hf i)))), (tb, .inl (cI, 211, .inl (fun i => nI (hb i)))), (tl, .inl (cI, 211, .inl (fun i => nI (ln i)))), (ts, .inl (cI, 211, .inl (fun i => oN (sw i)))), (tq, .inl (cI, 211, .inl (fun i => nI (od i))))] [(hS, .inr (4, [.ref sw1, .ref sw2, .ref sw3])), (sw1, .inl (cJ, 61, .inr (.inl ((cf ch wh tx b wy (n - b)).2)))), (sw2, .inl (cI, 61, .inl (fun i => oN (fw i)))), (sw3, .inl (cI, 61, .inl (fun i => nI (fe i)))), (hr, .inr (2, [.ref ar, .int (nI n)])), (ar, .inl (cC, m, .inl (fun i => nI (tx i)))), (ht, .inr (5, [.ref tc, .ref tw, .ref tf, .ref tb, .ref tl, .ref ts, .ref tq])), (tc, .inl (cI, 1688, .inl (fun i => oN (ch i)))), (tw, .inl (cZ, 211, .inl (fun i => bI (wh i)))), (tf, .inl (cI, 211, .inl (fun i => nI (hf i)))), (tb, .inl (cI, 211, .inl (fun i => nI (hb i)))), (tl, .inl (cI, 211, .inl (fun i => nI (ln i)))), (ts, .inl (cI, 211, .inl (fun i => oN (sw i)))), (tq, .inl (cI, 211, .inl (fun i => nI (od i))))] := by
  refine CV.ofV (by decide +kernel) rfl (Nat.le_of_ble_eq_true rfl) ?_
  intro κ x hret
  refine V_aload_n x 0 dX4_countFrom_0 rfl rfl ?_
  refine V_get x 0 4 0 hinX4 rfl rfl (by decide) flX4_9 rfl dX4_countFrom_1 ?_
  refine V_iload_n x 1 dX4_countFrom_4 rfl rfl ?_
  refine V_lconst (v := 0) x dX4_countFrom_5 (by decide +kernel) ?_
  refine V_last x 1 3 wy 0 [(hS, .inr (4, [.ref sw1, .ref sw2, .ref sw3])), (sw1, .inl (cJ, 61, .inr (.inl (va_up wy b 0)))), (sw2, .inl (cI, 61, .inl (fun i => oN (fw i)))), (sw3, .inl (cI, 61, .inl (fun i => nI (fe i)))), (hr, .inr (2, [.ref ar, .int (nI n)])), (ar, .inl (cC, m, .inl (fun i => nI (tx i)))), (ht, .inr (5, [.ref tc, .ref tw, .ref tf, .ref tb, .ref tl, .ref ts, .ref tq])), (tc, .inl (cI, 1688, .inl (fun i => oN (ch i)))), (tw, .inl (cZ, 211, .inl (fun i => bI (wh i)))), (tf, .inl (cI, 211, .inl (fun i => nI (hf i)))), (tb, .inl (cI, 211, .inl (fun i => nI (hb i)))), (tl, .inl (cI, 211, .inl (fun i => nI (ln i)))), (ts, .inl (cI, 211, .inl (fun i => oN (sw i)))), (tq, .inl (cI, 211, .inl (fun i => nI (od i))))] rfl rfl dX4_countFrom_6 (by omega) (by omega) rfl ?_
  refine V_iconst (v := nI 0) x dX4_countFrom_7 (by decide +kernel) ?_
  refine V_istore x 4 [(4, .int (nI 0)), (0, .ref hS), (1, .int (nI b)), (2, .ref hr), (3, .ref ht)] dX4_countFrom_8 (by decide) rfl ?_
  refine V_iload_n x 1 dX4_countFrom_10 rfl rfl ?_
  refine V_istore x 5 [(5, .int (nI b)), (4, .int (nI 0)), (0, .ref hS), (1, .int (nI b)), (2, .ref hr), (3, .ref ht)] dX4_countFrom_11 (by decide) rfl ?_
  have L13 : ∀ (k13 : Nat) (j : Nat) (o1 : Option Nat) (w1 : Nat → Int64) (hj : b + j ≤ n) (e1 : cf ch wh tx b wy j = (o1, w1)) (hk13 : n - (b + j) = k13), V κ 0 0 [(hS, .inr (4, [.ref sw1, .ref sw2, .ref sw3])), (sw1, .inl (cJ, 61, .inr (.inl w1))), (sw2, .inl (cI, 61, .inl (fun i => oN (fw i)))), (sw3, .inl (cI, 61, .inl (fun i => nI (fe i)))), (hr, .inr (2, [.ref ar, .int (nI n)])), (ar, .inl (cC, m, .inl (fun i => nI (tx i)))), (ht, .inr (5, [.ref tc, .ref tw, .ref tf, .ref tb, .ref tl, .ref ts, .ref tq])), (tc, .inl (cI, 1688, .inl (fun i => oN (ch i)))), (tw, .inl (cZ, 211, .inl (fun i => bI (wh i)))), (tf, .inl (cI, 211, .inl (fun i => nI (hf i)))), (tb, .inl (cI, 211, .inl (fun i => nI (hb i)))), (tl, .inl (cI, 211, .inl (fun i => nI (ln i)))), (ts, .inl (cI, 211, .inl (fun i => oN (sw i)))), (tq, .inl (cI, 211, .inl (fun i => nI (od i))))] 13 [(0, .ref hS), (1, .int (nI b)), (2, .ref hr), (3, .ref ht), (4, .int (oN o1)), (5, .int (nI (b + j)))] [] := by
    intro k13
    induction k13 using Nat.strongRecOn with
    | ind k13 ih13 =>
      intro j o1 w1 hj e1 hk13
      refine V_iload x 5 dX4_countFrom_13 rfl ?_
      refine V_aload_n x 2 dX4_countFrom_15 rfl rfl ?_
      refine V_callVi x (c_Line_size l D cI cZ cC cJ hr ar m tx n ) 0 (gdV mlX4_22 imX2_size seX2_size inX2 coX2_size) rfl hdX2_size ⟨Nat.le_of_ble_eq_true rfl, Nat.le_of_ble_eq_true rfl⟩ ⟨rfl, rfl⟩ 4 rfl rfl rfl [4, 5] [(hS, .inr (4, [.ref sw1, .ref sw2, .ref sw3])), (sw1, .inl (cJ, 61, .inr (.inl w1))), (sw2, .inl (cI, 61, .inl (fun i => oN (fw i)))), (sw3, .inl (cI, 61, .inl (fun i => nI (fe i)))), (hr, .inr (2, [.ref ar, .int (nI n)])), (ar, .inl (cC, m, .inl (fun i => nI (tx i)))), (ht, .inr (5, [.ref tc, .ref tw, .ref tf, .ref tb, .ref tl, .ref ts, .ref tq])), (tc, .inl (cI, 1688, .inl (fun i => oN (ch i)))), (tw, .inl (cZ, 211, .inl (fun i => bI (wh i)))), (tf, .inl (cI, 211, .inl (fun i => nI (hf i)))), (tb, .inl (cI, 211, .inl (fun i => nI (hb i)))), (tl, .inl (cI, 211, .inl (fun i => nI (ln i)))), (ts, .inl (cI, 211, .inl (fun i => oN (sw i)))), (tq, .inl (cI, 211, .inl (fun i => nI (od i))))] rfl rfl [hr, ar] rfl rfl [none, none, none, none, some 0, some 1] rfl rfl (rest := [.int (nI (b + j))]) rfl (Nat.le_of_ble_eq_true rfl) dX4_countFrom_16 ⟨Nat.zero_le _, Nat.zero_le _⟩ ?_
      refine V_icmp_geN x 75 dX4_countFrom_19 rfl (fun t19 => ?_) (fun f19 => ?_)
      · skip
        first
        | (rw [sub_e1 t19 hj, e1] at hret)
        | (subst t25; rw [cf_none e1 (sub_e2 hj)] at hret)
        exact hret _ _ dX4_countFrom_75
      · skip
        refine V_iload x 4 dX4_countFrom_22 rfl ?_
        refine V_iconst (v := (-1)) x dX4_countFrom_24 (by decide +kernel) ?_
        refine V_icmp_eqO x 75 dX4_countFrom_25 rfl (fun z hz => by subst hz; exact lt31 (cf_lt hrg e1)) (fun t25 => ?_) (fun z25 f25 => ?_)
        · skip
          simp only [t25, oN_none]
          first
          | (rw [sub_e1 t19 hj, e1] at hret)
          | (subst t25; rw [cf_none e1 (sub_e2 hj)] at hret)
          exact hret _ _ dX4_countFrom_75
        · skip
          simp only [f25, oN_some]
          refine V_aload_n x 3 dX4_countFrom_28 rfl rfl ?_
          refine V_iload x 4 dX4_countFrom_29 rfl ?_
          refine V_aload_n x 2 dX4_countFrom_31 rfl rfl ?_
          refine V_iload x 5 dX4_countFrom_32 rfl ?_
          refine V_callVi x (c_Line_at l D cI cZ cC cJ hr ar m tx n (b + j) (by first | omega | assumption) (by first | omega | assumption) (by first | omega | assumption) (by first | omega | assumption)) 1 (gdV mlX4_34 imX2_at seX2_at inX2 coX2_at) rfl hdX2_at ⟨Nat.le_of_ble_eq_true rfl, Nat.le_of_ble_eq_true rfl⟩ ⟨rfl, rfl⟩ 4 rfl rfl rfl [4, 5] [(hS, .inr (4, [.ref sw1, .ref sw2, .ref sw3])), (sw1, .inl (cJ, 61, .inr (.inl w1))), (sw2, .inl (cI, 61, .inl (fun i => oN (fw i)))), (sw3, .inl (cI, 61, .inl (fun i => nI (fe i)))), (hr, .inr (2, [.ref ar, .int (nI n)])), (ar, .inl (cC, m, .inl (fun i => nI (tx i)))), (ht, .inr (5, [.ref tc, .ref tw, .ref tf, .ref tb, .ref tl, .ref ts, .ref tq])), (tc, .inl (cI, 1688, .inl (fun i => oN (ch i)))), (tw, .inl (cZ, 211, .inl (fun i => bI (wh i)))), (tf, .inl (cI, 211, .inl (fun i => nI (hf i)))), (tb, .inl (cI, 211, .inl (fun i => nI (hb i)))), (tl, .inl (cI, 211, .inl (fun i => nI (ln i)))), (ts, .inl (cI, 211, .inl (fun i => oN (sw i)))), (tq, .inl (cI, 211, .inl (fun i => nI (od i))))] rfl rfl [hr, ar] rfl rfl [none, none, none, none, some 0, some 1] rfl rfl (rest := [.int (nI z25), .ref ht]) rfl (Nat.le_of_ble_eq_true rfl) dX4_countFrom_34 ⟨Nat.zero_le _, Nat.zero_le _⟩ ?_
          refine V_callVi x (c_step l D cI cZ cC cJ ht tc tw tf tb tl ts tq ch wh hf hb ln sw od (some z25) (tx (b + j)) (by first | omega | assumption) (fun z hz => by cases hz; subst f25; exact cf_lt hrg e1) (htx _)) 2 (gdV mlX4_38 imX5_step seX5_step inX5 coX5_step) rfl hdX5_step ⟨Nat.le_of_ble_eq_true rfl, Nat.le_of_ble_eq_true rfl⟩ ⟨rfl, rfl⟩ 6 rfl rfl rfl [6, 7, 8, 9, 10, 11, 12, 13] [(hS, .inr (4, [.ref sw1, .ref sw2, .ref sw3])), (sw1, .inl (cJ, 61, .inr (.inl w1))), (sw2, .inl (cI, 61, .inl (fun i => oN (fw i)))), (sw3, .inl (cI, 61, .inl (fun i => nI (fe i)))), (hr, .inr (2, [.ref ar, .int (nI n)])), (ar, .inl (cC, m, .inl (fun i => nI (tx i)))), (ht, .inr (5, [.ref tc, .ref tw, .ref tf, .ref tb, .ref tl, .ref ts, .ref tq])), (tc, .inl (cI, 1688, .inl (fun i => oN (ch i)))), (tw, .inl (cZ, 211, .inl (fun i => bI (wh i)))), (tf, .inl (cI, 211, .inl (fun i => nI (hf i)))), (tb, .inl (cI, 211, .inl (fun i => nI (hb i)))), (tl, .inl (cI, 211, .inl (fun i => nI (ln i)))), (ts, .inl (cI, 211, .inl (fun i => oN (sw i)))), (tq, .inl (cI, 211, .inl (fun i => nI (od i))))] rfl rfl [ht, tc, tw, tf, tb, tl, ts, tq] rfl rfl [none, none, none, none, none, none, some 0, some 1, some 2, some 3, some 4, some 5, some 6, some 7] rfl rfl (rest := []) rfl (Nat.le_of_ble_eq_true rfl) dX4_countFrom_37 ⟨Nat.zero_le _, Nat.zero_le _⟩ ?_
          refine V_istore x 4 [(4, .int (oN (stp ch (some z25) (tx (b + j))))), (0, .ref hS), (1, .int (nI b)), (2, .ref hr), (3, .ref ht), (5, .int (nI (b + j)))] dX4_countFrom_40 (by decide) rfl ?_
          refine V_aload_n x 3 dX4_countFrom_42 rfl rfl ?_
          refine V_iload x 4 dX4_countFrom_43 rfl ?_
          refine V_callVi x (c_isHeld l D cI cZ cC cJ ht tc tw tf tb tl ts tq ch wh hf hb ln sw od (stp ch (some z25) (tx (b + j))) (fun z hz => stp_lt hrg hz)) 1 (gdV mlX4_42 imX5_isHeld seX5_isHeld inX5 coX5_isHeld) rfl hdX5_isHeld ⟨Nat.le_of_ble_eq_true rfl, Nat.le_of_ble_eq_true rfl⟩ ⟨rfl, rfl⟩ 6 rfl rfl rfl [6, 7, 8, 9, 10, 11, 12, 13] [(hS, .inr (4, [.ref sw1, .ref sw2, .ref sw3])), (sw1, .inl (cJ, 61, .inr (.inl w1))), (sw2, .inl (cI, 61, .inl (fun i => oN (fw i)))), (sw3, .inl (cI, 61, .inl (fun i => nI (fe i)))), (hr, .inr (2, [.ref ar, .int (nI n)])), (ar, .inl (cC, m, .inl (fun i => nI (tx i)))), (ht, .inr (5, [.ref tc, .ref tw, .ref tf, .ref tb, .ref tl, .ref ts, .ref tq])), (tc, .inl (cI, 1688, .inl (fun i => oN (ch i)))), (tw, .inl (cZ, 211, .inl (fun i => bI (wh i)))), (tf, .inl (cI, 211, .inl (fun i => nI (hf i)))), (tb, .inl (cI, 211, .inl (fun i => nI (hb i)))), (tl, .inl (cI, 211, .inl (fun i => nI (ln i)))), (ts, .inl (cI, 211, .inl (fun i => oN (sw i)))), (tq, .inl (cI, 211, .inl (fun i => nI (od i))))] rfl rfl [ht, tc, tw, tf, tb, tl, ts, tq] rfl rfl [none, none, none, none, none, none, some 0, some 1, some 2, some 3, some 4, some 5, some 6, some 7] rfl rfl (rest := []) rfl (Nat.le_of_ble_eq_true rfl) dX4_countFrom_45 ⟨Nat.zero_le _, Nat.zero_le _⟩ ?_
          refine V_if_eqB x 69 dX4_countFrom_48 rfl (fun t48 => ?_) (fun f48 => ?_)
          · skip
            refine V_iinc x 5 5 [(5, .int (nI ((b + j) + 1))), (4, .int (oN (stp ch (some z25) (tx (b + j))))), (0, .ref hS), (1, .int (nI b)), (2, .ref hr), (3, .ref ht)] dX4_countFrom_69 rfl (iinc_1 _) (by decide) rfl ?_
            refine V_goto x 13 dX4_countFrom_72 rfl ?_
            refine V.sub [2, 3, 4, 5, 1, 0] (lv' := [(0, .ref hS), (1, .int (nI b)), (2, .ref hr), (3, .ref ht), (4, .int (oN ((stp ch (some z25) (tx (b + j)))))), (5, .int (nI (b + (j + 1))))]) rfl ?_
            exact ih13 (n - (b + (j + 1))) (by omega) (j + 1) (stp ch (some z25) (tx (b + j))) w1 (by omega) (by rw [cf, e1, f25]; first | (rw [if_pos f48]; done) | (rw [if_neg (by rw [t48]; decide)])) rfl
          · skip
            refine V_aload_n x 0 dX4_countFrom_51 rfl rfl ?_
            refine V_get x 0 4 0 hinX4 rfl rfl (by decide) flX4_9 rfl dX4_countFrom_52 ?_
            refine V_iload_n x 1 dX4_countFrom_55 rfl rfl ?_
            refine V_dup2 x dX4_countFrom_56 rfl rfl ?_
            refine V_lald x 1 3 rfl rfl dX4_countFrom_57 (by omega) (by omega) ?_
            refine V_aload_n x 0 dX4_countFrom_58 rfl rfl ?_
            refine V_get x 0 4 0 hinX4 rfl rfl (by decide) flX4_9 rfl dX4_countFrom_59 ?_
            refine V_iload x 5 dX4_countFrom_62 rfl ?_
            refine V_iconst (v := nI 1) x dX4_countFrom_64 (by decide +kernel) ?_
            refine V_iadd x (nI (b + j + 1)) dX4_countFrom_65 (nI_1 _) ?_
            refine V_lald x 1 3 rfl rfl dX4_countFrom_66 (by omega) (by omega) ?_
            refine V_ladd x ((w1 b) + (w1 (b + j + 1))) dX4_countFrom_67 rfl ?_
            refine V_last x 1 3 w1 ((w1 b) + (w1 (b + j + 1))) [(hS, .inr (4, [.ref sw1, .ref sw2, .ref sw3])), (sw1, .inl (cJ, 61, .inr (.inl (va_up w1 b ((w1 b) + (w1 (b + j + 1))))))), (sw2, .inl (cI, 61, .inl (fun i => oN (fw i)))), (sw3, .inl (cI, 61, .inl (fun i => nI (fe i)))), (hr, .inr (2, [.ref ar, .int (nI n)])), (ar, .inl (cC, m, .inl (fun i => nI (tx i)))), (ht, .inr (5, [.ref tc, .ref tw, .ref tf, .ref tb, .ref tl, .ref ts, .ref tq])), (tc, .inl (cI, 1688, .inl (fun i => oN (ch i)))), (tw, .inl (cZ, 211, .inl (fun i => bI (wh i)))), (tf, .inl (cI, 211, .inl (fun i => nI (hf i)))), (tb, .inl (cI, 211, .inl (fun i => nI (hb i)))), (tl, .inl (cI, 211, .inl (fun i => nI (ln i)))), (ts, .inl (cI, 211, .inl (fun i => oN (sw i)))), (tq, .inl (cI, 211, .inl (fun i => nI (od i))))] rfl rfl dX4_countFrom_68 (by omega) (by omega) rfl ?_
            refine V_iinc x 5 5 [(5, .int (nI ((b + j) + 1))), (4, .int (oN (stp ch (some z25) (tx (b + j))))), (0, .ref hS), (1, .int (nI b)), (2, .ref hr), (3, .ref ht)] dX4_countFrom_69 rfl (iinc_1 _) (by decide) rfl ?_
            refine V_goto x 13 dX4_countFrom_72 rfl ?_
            refine V.sub [2, 3, 4, 5, 1, 0] (lv' := [(0, .ref hS), (1, .int (nI b)), (2, .ref hr), (3, .ref ht), (4, .int (oN ((stp ch (some z25) (tx (b + j)))))), (5, .int (nI (b + (j + 1))))]) rfl ?_
            exact ih13 (n - (b + (j + 1))) (by omega) (j + 1) (stp ch (some z25) (tx (b + j))) (va_up w1 b ((w1 b) + (w1 (b + j + 1)))) (by omega) (by rw [cf, e1, f25]; first | (rw [if_pos f48]; done) | (rw [if_neg (by rw [t48]; decide)])) rfl
  refine V.sub [2, 3, 4, 5, 1, 0] (lv' := [(0, .ref hS), (1, .int (nI b)), (2, .ref hr), (3, .ref ht), (4, .int (oN ((some 0)))), (5, .int (nI (b + 0)))]) rfl ?_
  exact L13 _ 0 (some 0) (va_up wy b 0) (by omega) rfl rfl
set_option maxHeartbeats 4000000 in
set_option maxRecDepth 100000 in
theorem c_count (l : Launch) (D : va_G) (cI cZ cC cJ : ClassId) (hS sw1 sw2 sw3 hr ar ht tc tw tf tb tl ts tq : Nat) (wy : Nat → Int64) (fw : Nat → Option Nat) (fe : Nat → Nat) (m : Nat) (tx : Nat → Nat) (n : Nat) (ch : Nat → Option Nat) (wh : Nat → Bool) (hf : Nat → Nat) (hb : Nat → Nat) (ln : Nat → Nat) (sw : Nat → Option Nat) (od : Nat → Nat) (hrg : rg ch) (hn : n ≤ m) (hm : m < 1000) (htx : ∀ i, tx i < 65536) (hn60 : n ≤ 60) : CL l yX4_count wsX4_count { frames := 3, cells := 0, slots := 0, locals := 70 } D vwCl (tys4 cI cZ cC cJ) [.ref hS, .ref hr, .ref ht] [(hS, .inr (4, [.ref sw1, .ref sw2, .ref sw3])), (sw1, .inl (cJ, 61, .inr (.inl wy))), (sw2, .inl (cI, 61, .inl (fun i => oN (fw i)))), (sw3, .inl (cI, 61, .inl (fun i => nI (fe i)))), (hr, .inr (2, [.ref ar, .int (nI n)])), (ar, .inl (cC, m, .inl (fun i => nI (tx i)))), (ht, .inr (5, [.ref tc, .ref tw, .ref tf, .ref tb, .ref tl, .ref ts, .ref tq])), (tc, .inl (cI, 1688, .inl (fun i => oN (ch i)))), (tw, .inl (cZ, 211, .inl (fun i => bI (wh i)))), (tf, .inl (cI, 211, .inl (fun i => nI (hf i)))), (tb, .inl (cI, 211, .inl (fun i => nI (hb i)))), (tl, .inl (cI, 211, .inl (fun i => nI (ln i)))), (ts, .inl (cI, 211, .inl (fun i => oN (sw i)))), (tq, .inl (cI, 211, .inl (fun i => nI (od i))))] ((cnt ch wh tx n wy n 0)) [(hS, .inr (4, [.ref sw1, .ref sw2, .ref sw3])), (sw1, .inl (cJ, 61, .inr (.inl (cnt ch wh tx n wy n)))), (sw2, .inl (cI, 61, .inl (fun i => oN (fw i)))), (sw3, .inl (cI, 61, .inl (fun i => nI (fe i)))), (hr, .inr (2, [.ref ar, .int (nI n)])), (ar, .inl (cC, m, .inl (fun i => nI (tx i)))), (ht, .inr (5, [.ref tc, .ref tw, .ref tf, .ref tb, .ref tl, .ref ts, .ref tq])), (tc, .inl (cI, 1688, .inl (fun i => oN (ch i)))), (tw, .inl (cZ, 211, .inl (fun i => bI (wh i)))), (tf, .inl (cI, 211, .inl (fun i => nI (hf i)))), (tb, .inl (cI, 211, .inl (fun i => nI (hb i)))), (tl, .inl (cI, 211, .inl (fun i => nI (ln i)))), (ts, .inl (cI, 211, .inl (fun i => oN (sw i)))), (tq, .inl (cI, 211, .inl (fun i => nI (od i))))] := by
  refine CL.ofV (by decide +kernel) rfl (Nat.le_of_ble_eq_true rfl) ?_
  intro κ x hret
  refine V_aload_n x 0 dX4_count_0 rfl rfl ?_
  refine V_get x 0 4 0 hinX4 rfl rfl (by decide) flX4_9 rfl dX4_count_1 ?_
  refine V_aload_n x 1 dX4_count_4 rfl rfl ?_
  refine V_callVi x (c_Line_size l D cI cZ cC cJ hr ar m tx n ) 0 (gdV mlX4_22 imX2_size seX2_size inX2 coX2_size) rfl hdX2_size ⟨Nat.le_of_ble_eq_true rfl, Nat.le_of_ble_eq_true rfl⟩ ⟨rfl, rfl⟩ 4 rfl rfl rfl [4, 5] [(hS, .inr (4, [.ref sw1, .ref sw2, .ref sw3])), (sw1, .inl (cJ, 61, .inr (.inl wy))), (sw2, .inl (cI, 61, .inl (fun i => oN (fw i)))), (sw3, .inl (cI, 61, .inl (fun i => nI (fe i)))), (hr, .inr (2, [.ref ar, .int (nI n)])), (ar, .inl (cC, m, .inl (fun i => nI (tx i)))), (ht, .inr (5, [.ref tc, .ref tw, .ref tf, .ref tb, .ref tl, .ref ts, .ref tq])), (tc, .inl (cI, 1688, .inl (fun i => oN (ch i)))), (tw, .inl (cZ, 211, .inl (fun i => bI (wh i)))), (tf, .inl (cI, 211, .inl (fun i => nI (hf i)))), (tb, .inl (cI, 211, .inl (fun i => nI (hb i)))), (tl, .inl (cI, 211, .inl (fun i => nI (ln i)))), (ts, .inl (cI, 211, .inl (fun i => oN (sw i)))), (tq, .inl (cI, 211, .inl (fun i => nI (od i))))] rfl rfl [hr, ar] rfl rfl [none, none, none, none, some 0, some 1] rfl rfl (rest := [.ref sw1]) rfl (Nat.le_of_ble_eq_true rfl) dX4_count_5 ⟨Nat.zero_le _, Nat.zero_le _⟩ ?_
  refine V_lconst (v := 1) x dX4_count_8 (by decide +kernel) ?_
  refine V_last x 1 3 wy 1 [(hS, .inr (4, [.ref sw1, .ref sw2, .ref sw3])), (sw1, .inl (cJ, 61, .inr (.inl (va_up wy n 1)))), (sw2, .inl (cI, 61, .inl (fun i => oN (fw i)))), (sw3, .inl (cI, 61, .inl (fun i => nI (fe i)))), (hr, .inr (2, [.ref ar, .int (nI n)])), (ar, .inl (cC, m, .inl (fun i => nI (tx i)))), (ht, .inr (5, [.ref tc, .ref tw, .ref tf, .ref tb, .ref tl, .ref ts, .ref tq])), (tc, .inl (cI, 1688, .inl (fun i => oN (ch i)))), (tw, .inl (cZ, 211, .inl (fun i => bI (wh i)))), (tf, .inl (cI, 211, .inl (fun i => nI (hf i)))), (tb, .inl (cI, 211, .inl (fun i => nI (hb i)))), (tl, .inl (cI, 211, .inl (fun i => nI (ln i)))), (ts, .inl (cI, 211, .inl (fun i => oN (sw i)))), (tq, .inl (cI, 211, .inl (fun i => nI (od i))))] rfl rfl dX4_count_9 (by omega) (by omega) rfl ?_
  refine V_aload_n x 1 dX4_count_10 rfl rfl ?_
  refine V_callVi x (c_Line_size l D cI cZ cC cJ hr ar m tx n ) 0 (gdV mlX4_22 imX2_size seX2_size inX2 coX2_size) rfl hdX2_size ⟨Nat.le_of_ble_eq_true rfl, Nat.le_of_ble_eq_true rfl⟩ ⟨rfl, rfl⟩ 4 rfl rfl rfl [4, 5] [(hS, .inr (4, [.ref sw1, .ref sw2, .ref sw3])), (sw1, .inl (cJ, 61, .inr (.inl (va_up wy n 1)))), (sw2, .inl (cI, 61, .inl (fun i => oN (fw i)))), (sw3, .inl (cI, 61, .inl (fun i => nI (fe i)))), (hr, .inr (2, [.ref ar, .int (nI n)])), (ar, .inl (cC, m, .inl (fun i => nI (tx i)))), (ht, .inr (5, [.ref tc, .ref tw, .ref tf, .ref tb, .ref tl, .ref ts, .ref tq])), (tc, .inl (cI, 1688, .inl (fun i => oN (ch i)))), (tw, .inl (cZ, 211, .inl (fun i => bI (wh i)))), (tf, .inl (cI, 211, .inl (fun i => nI (hf i)))), (tb, .inl (cI, 211, .inl (fun i => nI (hb i)))), (tl, .inl (cI, 211, .inl (fun i => nI (ln i)))), (ts, .inl (cI, 211, .inl (fun i => oN (sw i)))), (tq, .inl (cI, 211, .inl (fun i => nI (od i))))] rfl rfl [hr, ar] rfl rfl [none, none, none, none, some 0, some 1] rfl rfl (rest := []) rfl (Nat.le_of_ble_eq_true rfl) dX4_count_11 ⟨Nat.zero_le _, Nat.zero_le _⟩ ?_
  refine V_iconst (v := nI 1) x dX4_count_14 (by decide +kernel) ?_
  refine V_isub x (oN (prd n)) dX4_count_15 (prd_sub _) ?_
  refine V_istore_n x 3 [(3, .int (oN (prd n))), (0, .ref hS), (1, .ref hr), (2, .ref ht)] dX4_count_16 rfl (by decide) rfl ?_
  have L17 : ∀ (k17 : Nat) (k : Nat) (w1 : Nat → Int64) (hk : k ≤ n) (e1 : cnt ch wh tx n wy (n - k) = w1) (hk17 : k = k17), V κ 0 0 [(hS, .inr (4, [.ref sw1, .ref sw2, .ref sw3])), (sw1, .inl (cJ, 61, .inr (.inl w1))), (sw2, .inl (cI, 61, .inl (fun i => oN (fw i)))), (sw3, .inl (cI, 61, .inl (fun i => nI (fe i)))), (hr, .inr (2, [.ref ar, .int (nI n)])), (ar, .inl (cC, m, .inl (fun i => nI (tx i)))), (ht, .inr (5, [.ref tc, .ref tw, .ref tf, .ref tb, .ref tl, .ref ts, .ref tq])), (tc, .inl (cI, 1688, .inl (fun i => oN (ch i)))), (tw, .inl (cZ, 211, .inl (fun i => bI (wh i)))), (tf, .inl (cI, 211, .inl (fun i => nI (hf i)))), (tb, .inl (cI, 211, .inl (fun i => nI (hb i)))), (tl, .inl (cI, 211, .inl (fun i => nI (ln i)))), (ts, .inl (cI, 211, .inl (fun i => oN (sw i)))), (tq, .inl (cI, 211, .inl (fun i => nI (od i))))] 17 [(0, .ref hS), (1, .ref hr), (2, .ref ht), (3, .int (oN (prd k)))] [] := by
    intro k17
    induction k17 using Nat.strongRecOn with
    | ind k17 ih17 =>
      intro k w1 hk e1 hk17
      refine V_iload_n x 3 dX4_count_17 rfl rfl ?_
      refine V_if_ltO x 34 dX4_count_18 rfl (fun z hz => by have := prd_some hz; omega) (fun t18 => ?_) (fun z18 f18 => ?_)
      · skip
        simp only [t18, oN_none]
        refine V_aload_n x 0 dX4_count_34 rfl rfl ?_
        refine V_get x 0 4 0 hinX4 rfl rfl (by decide) flX4_9 rfl dX4_count_35 ?_
        refine V_iconst (v := nI 0) x dX4_count_38 (by decide +kernel) ?_
        refine V_lald x 1 3 rfl rfl dX4_count_39 (by omega) (by omega) ?_
        obtain rfl := prd_none t18
        rw [Nat.sub_zero] at e1
        rw [e1] at hret
        exact hret _ _ dX4_count_40
      · skip
        simp only [f18, oN_some]
        obtain rfl := prd_some f18
        refine V_aload_n x 0 dX4_count_21 rfl rfl ?_
        refine V_iload_n x 3 dX4_count_22 rfl rfl ?_
        refine V_aload_n x 1 dX4_count_23 rfl rfl ?_
        refine V_aload_n x 2 dX4_count_24 rfl rfl ?_
        refine V_callVv x (c_countFrom l D cI cZ cC cJ hS sw1 sw2 sw3 hr ar ht tc tw tf tb tl ts tq w1 fw fe m tx n ch wh hf hb ln sw od z18 (by first | omega | assumption) (by first | omega | assumption) (by first | omega | assumption) (by first | omega | assumption) (by first | omega | assumption) (by first | omega | assumption)) 3 (gdV mlX4_28 imX4_countFrom seX4_countFrom inX4 coX4_countFrom) rfl hdX4_countFrom ⟨Nat.le_of_ble_eq_true rfl, Nat.le_of_ble_eq_true rfl⟩ ⟨rfl, rfl⟩ 0 rfl rfl rfl [0, 1, 2, 3, 4, 5, 6, 7, 8, 9, 10, 11, 12, 13] [(hS, .inr (4, [.ref sw1, .ref sw2, .ref sw3])), (sw1, .inl (cJ, 61, .inr (.inl ((cf ch wh tx z18 w1 (n - z18)).2)))), (sw2, .inl (cI, 61, .inl (fun i => oN (fw i)))), (sw3, .inl (cI, 61, .inl (fun i => nI (fe i)))), (hr, .inr (2, [.ref ar, .int (nI n)])), (ar, .inl (cC, m, .inl (fun i => nI (tx i)))), (ht, .inr (5, [.ref tc, .ref tw, .ref tf, .ref tb, .ref tl, .ref ts, .ref tq])), (tc, .inl (cI, 1688, .inl (fun i => oN (ch i)))), (tw, .inl (cZ, 211, .inl (fun i => bI (wh i)))), (tf, .inl (cI, 211, .inl (fun i => nI (hf i)))), (tb, .inl (cI, 211, .inl (fun i => nI (hb i)))), (tl, .inl (cI, 211, .inl (fun i => nI (ln i)))), (ts, .inl (cI, 211, .inl (fun i => oN (sw i)))), (tq, .inl (cI, 211, .inl (fun i => nI (od i))))] rfl rfl [hS, sw1, sw2, sw3, hr, ar, ht, tc, tw, tf, tb, tl, ts, tq] rfl rfl [some 0, some 1, some 2, some 3, some 4, some 5, some 6, some 7, some 8, some 9, some 10, some 11, some 12, some 13] rfl rfl (rest := []) rfl (Nat.le_of_ble_eq_true rfl) dX4_count_25 ⟨Nat.zero_le _, Nat.zero_le _⟩ ?_
        refine V_iinc x 3 3 [(3, .int (oN (prd z18))), (0, .ref hS), (1, .ref hr), (2, .ref ht)] dX4_count_28 rfl (prd_inc _) (by decide) rfl ?_
        refine V_goto x 17 dX4_count_31 rfl ?_
        refine V.sub [1, 2, 3, 0] (lv' := [(0, .ref hS), (1, .ref hr), (2, .ref ht), (3, .int (oN (prd z18)))]) rfl ?_
        exact ih17 (z18) (by omega) z18 ((cf ch wh tx z18 w1 (n - z18)).2) (by omega) (cnt_step (by omega) e1) rfl
  refine V.sub [1, 2, 3, 0] (lv' := [(0, .ref hS), (1, .ref hr), (2, .ref ht), (3, .int (oN (prd n)))]) rfl ?_
  exact L17 _ n (va_up wy n 1) (by omega) (by rw [Nat.sub_self]; rfl) rfl
set_option maxHeartbeats 4000000 in
set_option maxRecDepth 100000 in
theorem c_isNoWorse (l : Launch) (D : va_G) (cI cZ cC cJ : ClassId)  (r : Option Nat) (b : Option Nat) (hr1 : ∀ z, r = some z → z < 1000) (hb1 : ∀ z, b = some z → z < 1000) : CI l yX4_isNoWorse wsX4_isNoWorse { frames := 0, cells := 0, slots := 0, locals := 0 } D vwCl (tys4 cI cZ cC cJ) [.int (oN r), .int (oN b)] [] ((bI (nw r b))) [] := by
  refine CI.ofV (nar_bI2 _) (by decide +kernel) rfl (Nat.le_of_ble_eq_true rfl) ?_
  intro κ x hret
  refine V_iload_n x 0 dX4_isNoWorse_0 rfl rfl ?_
  refine V_iconst (v := (-1)) x dX4_isNoWorse_1 (by decide +kernel) ?_
  refine V_icmp_eqO x 21 dX4_isNoWorse_2 rfl (fun z hz => by have := hr1 z hz; omega) (fun t2 => ?_) (fun z2 f2 => ?_)
  · skip
    simp only [t2, oN_none]
    refine V_iconst (v := nI 0) x dX4_isNoWorse_21 (by decide +kernel) ?_
    refine V.ci (x' := bI (nw r b)) (by first | (rw [t2]; rfl) | (rw [f2, t7]; rfl) | (rw [f2, f7, nw_ss, decide_eq_true (by omega)]; rfl) | (rw [f2, f7, nw_ss, decide_eq_false (by omega)]; rfl)) ?_
    exact hret _ _ dX4_isNoWorse_22
  · skip
    simp only [f2, oN_some]
    refine V_iload_n x 1 dX4_isNoWorse_5 rfl rfl ?_
    refine V_iconst (v := (-1)) x dX4_isNoWorse_6 (by decide +kernel) ?_
    refine V_icmp_eqO x 17 dX4_isNoWorse_7 rfl (fun z hz => by have := hb1 z hz; omega) (fun t7 => ?_) (fun z7 f7 => ?_)
    · skip
      simp only [t7, oN_none]
      refine V_iconst (v := nI 1) x dX4_isNoWorse_17 (by decide +kernel) ?_
      refine V_goto x 22 dX4_isNoWorse_18 rfl ?_
      refine V.ci (x' := bI (nw r b)) (by first | (rw [t2]; rfl) | (rw [f2, t7]; rfl) | (rw [f2, f7, nw_ss, decide_eq_true (by omega)]; rfl) | (rw [f2, f7, nw_ss, decide_eq_false (by omega)]; rfl)) ?_
      exact hret _ _ dX4_isNoWorse_22
    · skip
      simp only [f7, oN_some]
      refine V_iload_n x 0 dX4_isNoWorse_10 rfl rfl ?_
      refine V_iconst (v := nI 1) x dX4_isNoWorse_11 (by decide +kernel) ?_
      refine V_iadd x (nI (z2 + 1)) dX4_isNoWorse_12 (nI_add _ _) ?_
      refine V_iload_n x 1 dX4_isNoWorse_13 rfl rfl ?_
      refine V_icmp_gtN x 21 dX4_isNoWorse_14 rfl (fun t14 => ?_) (fun f14 => ?_) (by have := hr1 _ f2; omega) (by have := hb1 _ f7; omega)
      · skip
        refine V_iconst (v := nI 0) x dX4_isNoWorse_21 (by decide +kernel) ?_
        refine V.ci (x' := bI (nw r b)) (by first | (rw [t2]; rfl) | (rw [f2, t7]; rfl) | (rw [f2, f7, nw_ss, decide_eq_true (by omega)]; rfl) | (rw [f2, f7, nw_ss, decide_eq_false (by omega)]; rfl)) ?_
        exact hret _ _ dX4_isNoWorse_22
      · skip
        refine V_iconst (v := nI 1) x dX4_isNoWorse_17 (by decide +kernel) ?_
        refine V_goto x 22 dX4_isNoWorse_18 rfl ?_
        refine V.ci (x' := bI (nw r b)) (by first | (rw [t2]; rfl) | (rw [f2, t7]; rfl) | (rw [f2, f7, nw_ss, decide_eq_true (by omega)]; rfl) | (rw [f2, f7, nw_ss, decide_eq_false (by omega)]; rfl)) ?_
        exact hret _ _ dX4_isNoWorse_22
set_option maxHeartbeats 4000000 in
set_option maxRecDepth 100000 in
theorem c_chooseFrom (l : Launch) (D : va_G) (cI cZ cC cJ : ClassId) (hS sw1 sw2 sw3 hr ar ht tc tw tf tb tl ts tq : Nat) (wy : Nat → Int64) (fw : Nat → Option Nat) (fe : Nat → Nat) (m : Nat) (tx : Nat → Nat) (n : Nat) (ch : Nat → Option Nat) (wh : Nat → Bool) (hf : Nat → Nat) (hb : Nat → Nat) (ln : Nat → Nat) (sw : Nat → Option Nat) (od : Nat → Nat) (b : Nat) (hrg : rg ch) (hn : n ≤ m) (hm : m < 1000) (htx : ∀ i, tx i < 65536) (hn60 : n ≤ 60) (hbn : b < n) (hfw : ∀ i z, i ≠ b → fw i = some z → z ≤ 500) : CV l yX4_chooseFrom wsX4_chooseFrom { frames := 2, cells := 0, slots := 0, locals := 45 } D vwCl (tys4 cI cZ cC cJ) [.ref hS, .int (nI b), .ref hr, .ref ht] [(hS, .inr (4, [.ref sw1, .ref sw2, .ref sw3])), (sw1, .inl (cJ, 61, .inr (.inl wy))), (sw2, .inl (cI, 61, .inl (fun i => oN (fw i)))), (sw3, .inl (cI, 61, .inl (fun i => nI (fe i)))), (hr, .inr (2, [.ref ar, .int (nI n)])), (ar, .inl (cC, m, .inl (fun i => nI (tx i)))), (ht, .inr (5, [.ref tc, .ref tw, .ref tf, .ref tb, .ref tl, .ref ts, .ref tq])), (tc, .inl (cI, 1688, .inl (fun i => oN (ch i)))), (tw, .inl (cZ, 211, .inl (fun i => bI (wh i)))), (tf, .inl (cI, 211, .inl (fun i => nI (hf i)))), (tb, .inl (cI, 211, .inl (fun i => nI (hb i)))), (tl, .inl (cI, 211, .inl (fun i => nI (ln i)))), (ts, .inl (cI, 211, .inl (fun i => oN (sw i)))), (tq, .inl (cI, 211, .inl (fun i => nI (od i))))] [(hS, .inr (4, [.ref sw1, .ref sw2, .ref sw3])), (sw1, .inl (cJ, 61, .inr (.inl wy))), (sw2, .inl (cI, 61, .inl (fun i => oN (((hs ch wh tx b fw fe (n - b)).2.1) i)))), (sw3, .inl (cI, 61, .inl (fun i => nI (((hs ch wh tx b fw fe (n - b)).2.2) i)))), (hr, .inr (2, [.ref ar, .int (nI n)])), (ar, .inl (cC, m, .inl (fun i => nI (tx i)))), (ht, .inr (5, [.ref tc, .ref tw, .ref tf, .ref tb, .ref tl, .ref ts, .ref tq])), (tc, .inl (cI, 1688, .inl (fun i => oN (ch i)))), (tw, .inl (cZ, 211, .inl (fun i => bI (wh i)))), (tf, .inl (cI, 211, .inl (fun i => nI (hf i)))), (tb, .inl (cI, 211, .inl (fun i => nI (hb i)))), (tl, .inl (cI, 211, .inl (fun i => nI (ln i)))), (ts, .inl (cI, 211, .inl (fun i => oN (sw i)))), (tq, .inl (cI, 211, .inl (fun i => nI (od i))))] := by
  refine CV.ofV (by decide +kernel) rfl (Nat.le_of_ble_eq_true rfl) ?_
  intro κ x hret
  refine V_aload_n x 0 dX4_chooseFrom_0 rfl rfl ?_
  refine V_get x 0 4 1 hinX4 rfl rfl (by decide) flX4_15 rfl dX4_chooseFrom_1 ?_
  refine V_iload_n x 1 dX4_chooseFrom_4 rfl rfl ?_
  refine V_iconst (v := (-1)) x dX4_chooseFrom_5 (by decide +kernel) ?_
  refine V_iast x 2 0 oN fw none [(hS, .inr (4, [.ref sw1, .ref sw2, .ref sw3])), (sw1, .inl (cJ, 61, .inr (.inl wy))), (sw2, .inl (cI, 61, .inl (fun i => oN ((va_up fw b none) i)))), (sw3, .inl (cI, 61, .inl (fun i => nI (fe i)))), (hr, .inr (2, [.ref ar, .int (nI n)])), (ar, .inl (cC, m, .inl (fun i => nI (tx i)))), (ht, .inr (5, [.ref tc, .ref tw, .ref tf, .ref tb, .ref tl, .ref ts, .ref tq])), (tc, .inl (cI, 1688, .inl (fun i => oN (ch i)))), (tw, .inl (cZ, 211, .inl (fun i => bI (wh i)))), (tf, .inl (cI, 211, .inl (fun i => nI (hf i)))), (tb, .inl (cI, 211, .inl (fun i => nI (hb i)))), (tl, .inl (cI, 211, .inl (fun i => nI (ln i)))), (ts, .inl (cI, 211, .inl (fun i => oN (sw i)))), (tq, .inl (cI, 211, .inl (fun i => nI (od i))))] rfl rfl dX4_chooseFrom_6 (by omega) (by omega) rfl ?_
  refine V_iconst (v := nI 0) x dX4_chooseFrom_7 (by decide +kernel) ?_
  refine V_istore x 4 [(4, .int (nI 0)), (0, .ref hS), (1, .int (nI b)), (2, .ref hr), (3, .ref ht)] dX4_chooseFrom_8 (by decide) rfl ?_
  refine V_iload_n x 1 dX4_chooseFrom_10 rfl rfl ?_
  refine V_istore x 5 [(5, .int (nI b)), (4, .int (nI 0)), (0, .ref hS), (1, .int (nI b)), (2, .ref hr), (3, .ref ht)] dX4_chooseFrom_11 (by decide) rfl ?_
  have L13 : ∀ (k13 : Nat) (j : Nat) (o1 : Option Nat) (f1 : Nat → Option Nat) (q1 : Nat → Nat) (hj : b + j ≤ n) (hf1 : ∀ i z, i ≠ b → f1 i = some z → z ≤ 500) (hf2 : ∀ z, f1 b = some z → z ≤ 501) (e1 : hs ch wh tx b fw fe j = (o1, f1, q1)) (hk13 : n - (b + j) = k13), V κ 0 0 [(hS, .inr (4, [.ref sw1, .ref sw2, .ref sw3])), (sw1, .inl (cJ, 61, .inr (.inl wy))), (sw2, .inl (cI, 61, .inl (fun i => oN (f1 i)))), (sw3, .inl (cI, 61, .inl (fun i => nI (q1 i)))), (hr, .inr (2, [.ref ar, .int (nI n)])), (ar, .inl (cC, m, .inl (fun i => nI (tx i)))), (ht, .inr (5, [.ref tc, .ref tw, .ref tf, .ref tb, .ref tl, .ref ts, .ref tq])), (tc, .inl (cI, 1688, .inl (fun i => oN (ch i)))), (tw, .inl (cZ, 211, .inl (fun i => bI (wh i)))), (tf, .inl (cI, 211, .inl (fun i => nI (hf i)))), (tb, .inl (cI, 211, .inl (fun i => nI (hb i)))), (tl, .inl (cI, 211, .inl (fun i => nI (ln i)))), (ts, .inl (cI, 211, .inl (fun i => oN (sw i)))), (tq, .inl (cI, 211, .inl (fun i => nI (od i))))] 13 [(0, .ref hS), (1, .int (nI b)), (2, .ref hr), (3, .ref ht), (4, .int (oN o1)), (5, .int (nI (b + j)))] [] := by
    intro k13
    induction k13 using Nat.strongRecOn with
    | ind k13 ih13 =>
      intro j o1 f1 q1 hj hf1 hf2 e1 hk13
      refine V_iload x 5 dX4_chooseFrom_13 rfl ?_
      refine V_aload_n x 2 dX4_chooseFrom_15 rfl rfl ?_
      refine V_callVi x (c_Line_size l D cI cZ cC cJ hr ar m tx n ) 0 (gdV mlX4_22 imX2_size seX2_size inX2 coX2_size) rfl hdX2_size ⟨Nat.le_of_ble_eq_true rfl, Nat.le_of_ble_eq_true rfl⟩ ⟨rfl, rfl⟩ 4 rfl rfl rfl [4, 5] [(hS, .inr (4, [.ref sw1, .ref sw2, .ref sw3])), (sw1, .inl (cJ, 61, .inr (.inl wy))), (sw2, .inl (cI, 61, .inl (fun i => oN (f1 i)))), (sw3, .inl (cI, 61, .inl (fun i => nI (q1 i)))), (hr, .inr (2, [.ref ar, .int (nI n)])), (ar, .inl (cC, m, .inl (fun i => nI (tx i)))), (ht, .inr (5, [.ref tc, .ref tw, .ref tf, .ref tb, .ref tl, .ref ts, .ref tq])), (tc, .inl (cI, 1688, .inl (fun i => oN (ch i)))), (tw, .inl (cZ, 211, .inl (fun i => bI (wh i)))), (tf, .inl (cI, 211, .inl (fun i => nI (hf i)))), (tb, .inl (cI, 211, .inl (fun i => nI (hb i)))), (tl, .inl (cI, 211, .inl (fun i => nI (ln i)))), (ts, .inl (cI, 211, .inl (fun i => oN (sw i)))), (tq, .inl (cI, 211, .inl (fun i => nI (od i))))] rfl rfl [hr, ar] rfl rfl [none, none, none, none, some 0, some 1] rfl rfl (rest := [.int (nI (b + j))]) rfl (Nat.le_of_ble_eq_true rfl) dX4_chooseFrom_16 ⟨Nat.zero_le _, Nat.zero_le _⟩ ?_
      refine V_icmp_geN x 105 dX4_chooseFrom_19 rfl (fun t19 => ?_) (fun f19 => ?_)
      · skip
        first
        | (rw [sub_e1 t19 hj, e1] at hret)
        | (subst t25; rw [hs_none e1 (sub_e2 hj)] at hret)
        exact hret _ _ dX4_chooseFrom_105
      · skip
        refine V_iload x 4 dX4_chooseFrom_22 rfl ?_
        refine V_iconst (v := (-1)) x dX4_chooseFrom_24 (by decide +kernel) ?_
        refine V_icmp_eqO x 105 dX4_chooseFrom_25 rfl (fun z hz => by subst hz; exact lt31 (hs_lt hrg e1)) (fun t25 => ?_) (fun z25 f25 => ?_)
        · skip
          simp only [t25, oN_none]
          first
          | (rw [sub_e1 t19 hj, e1] at hret)
          | (subst t25; rw [hs_none e1 (sub_e2 hj)] at hret)
          exact hret _ _ dX4_chooseFrom_105
        · skip
          simp only [f25, oN_some]
          refine V_aload_n x 3 dX4_chooseFrom_28 rfl rfl ?_
          refine V_iload x 4 dX4_chooseFrom_29 rfl ?_
          refine V_aload_n x 2 dX4_chooseFrom_31 rfl rfl ?_
          refine V_iload x 5 dX4_chooseFrom_32 rfl ?_
          refine V_callVi x (c_Line_at l D cI cZ cC cJ hr ar m tx n (b + j) (by first | omega | assumption) (by first | omega | assumption) (by first | omega | assumption) (by first | omega | assumption)) 1 (gdV mlX4_34 imX2_at seX2_at inX2 coX2_at) rfl hdX2_at ⟨Nat.le_of_ble_eq_true rfl, Nat.le_of_ble_eq_true rfl⟩ ⟨rfl, rfl⟩ 4 rfl rfl rfl [4, 5] [(hS, .inr (4, [.ref sw1, .ref sw2, .ref sw3])), (sw1, .inl (cJ, 61, .inr (.inl wy))), (sw2, .inl (cI, 61, .inl (fun i => oN (f1 i)))), (sw3, .inl (cI, 61, .inl (fun i => nI (q1 i)))), (hr, .inr (2, [.ref ar, .int (nI n)])), (ar, .inl (cC, m, .inl (fun i => nI (tx i)))), (ht, .inr (5, [.ref tc, .ref tw, .ref tf, .ref tb, .ref tl, .ref ts, .ref tq])), (tc, .inl (cI, 1688, .inl (fun i => oN (ch i)))), (tw, .inl (cZ, 211, .inl (fun i => bI (wh i)))), (tf, .inl (cI, 211, .inl (fun i => nI (hf i)))), (tb, .inl (cI, 211, .inl (fun i => nI (hb i)))), (tl, .inl (cI, 211, .inl (fun i => nI (ln i)))), (ts, .inl (cI, 211, .inl (fun i => oN (sw i)))), (tq, .inl (cI, 211, .inl (fun i => nI (od i))))] rfl rfl [hr, ar] rfl rfl [none, none, none, none, some 0, some 1] rfl rfl (rest := [.int (nI z25), .ref ht]) rfl (Nat.le_of_ble_eq_true rfl) dX4_chooseFrom_34 ⟨Nat.zero_le _, Nat.zero_le _⟩ ?_
          refine V_callVi x (c_step l D cI cZ cC cJ ht tc tw tf tb tl ts tq ch wh hf hb ln sw od (some z25) (tx (b + j)) (by first | omega | assumption) (fun z hz => by cases hz; subst f25; exact hs_lt hrg e1) (htx _)) 2 (gdV mlX4_38 imX5_step seX5_step inX5 coX5_step) rfl hdX5_step ⟨Nat.le_of_ble_eq_true rfl, Nat.le_of_ble_eq_true rfl⟩ ⟨rfl, rfl⟩ 6 rfl rfl rfl [6, 7, 8, 9, 10, 11, 12, 13] [(hS, .inr (4, [.ref sw1, .ref sw2, .ref sw3])), (sw1, .inl (cJ, 61, .inr (.inl wy))), (sw2, .inl (cI, 61, .inl (fun i => oN (f1 i)))), (sw3, .inl (cI, 61, .inl (fun i => nI (q1 i)))), (hr, .inr (2, [.ref ar, .int (nI n)])), (ar, .inl (cC, m, .inl (fun i => nI (tx i)))), (ht, .inr (5, [.ref tc, .ref tw, .ref tf, .ref tb, .ref tl, .ref ts, .ref tq])), (tc, .inl (cI, 1688, .inl (fun i => oN (ch i)))), (tw, .inl (cZ, 211, .inl (fun i => bI (wh i)))), (tf, .inl (cI, 211, .inl (fun i => nI (hf i)))), (tb, .inl (cI, 211, .inl (fun i => nI (hb i)))), (tl, .inl (cI, 211, .inl (fun i => nI (ln i)))), (ts, .inl (cI, 211, .inl (fun i => oN (sw i)))), (tq, .inl (cI, 211, .inl (fun i => nI (od i))))] rfl rfl [ht, tc, tw, tf, tb, tl, ts, tq] rfl rfl [none, none, none, none, none, none, some 0, some 1, some 2, some 3, some 4, some 5, some 6, some 7] rfl rfl (rest := []) rfl (Nat.le_of_ble_eq_true rfl) dX4_chooseFrom_37 ⟨Nat.zero_le _, Nat.zero_le _⟩ ?_
          refine V_istore x 4 [(4, .int (oN (stp ch (some z25) (tx (b + j))))), (0, .ref hS), (1, .int (nI b)), (2, .ref hr), (3, .ref ht), (5, .int (nI (b + j)))] dX4_chooseFrom_40 (by decide) rfl ?_
          refine V_aload_n x 3 dX4_chooseFrom_42 rfl rfl ?_
          refine V_iload x 4 dX4_chooseFrom_43 rfl ?_
          refine V_callVi x (c_isHeld l D cI cZ cC cJ ht tc tw tf tb tl ts tq ch wh hf hb ln sw od (stp ch (some z25) (tx (b + j))) (fun z hz => stp_lt hrg hz)) 1 (gdV mlX4_42 imX5_isHeld seX5_isHeld inX5 coX5_isHeld) rfl hdX5_isHeld ⟨Nat.le_of_ble_eq_true rfl, Nat.le_of_ble_eq_true rfl⟩ ⟨rfl, rfl⟩ 6 rfl rfl rfl [6, 7, 8, 9, 10, 11, 12, 13] [(hS, .inr (4, [.ref sw1, .ref sw2, .ref sw3])), (sw1, .inl (cJ, 61, .inr (.inl wy))), (sw2, .inl (cI, 61, .inl (fun i => oN (f1 i)))), (sw3, .inl (cI, 61, .inl (fun i => nI (q1 i)))), (hr, .inr (2, [.ref ar, .int (nI n)])), (ar, .inl (cC, m, .inl (fun i => nI (tx i)))), (ht, .inr (5, [.ref tc, .ref tw, .ref tf, .ref tb, .ref tl, .ref ts, .ref tq])), (tc, .inl (cI, 1688, .inl (fun i => oN (ch i)))), (tw, .inl (cZ, 211, .inl (fun i => bI (wh i)))), (tf, .inl (cI, 211, .inl (fun i => nI (hf i)))), (tb, .inl (cI, 211, .inl (fun i => nI (hb i)))), (tl, .inl (cI, 211, .inl (fun i => nI (ln i)))), (ts, .inl (cI, 211, .inl (fun i => oN (sw i)))), (tq, .inl (cI, 211, .inl (fun i => nI (od i))))] rfl rfl [ht, tc, tw, tf, tb, tl, ts, tq] rfl rfl [none, none, none, none, none, none, some 0, some 1, some 2, some 3, some 4, some 5, some 6, some 7] rfl rfl (rest := []) rfl (Nat.le_of_ble_eq_true rfl) dX4_chooseFrom_45 ⟨Nat.zero_le _, Nat.zero_le _⟩ ?_
          refine V_if_eqB x 99 dX4_chooseFrom_48 rfl (fun t48 => ?_) (fun f48 => ?_)
          · skip
            refine V_iinc x 5 5 [(5, .int (nI ((b + j) + 1))), (4, .int (oN (stp ch (some z25) (tx (b + j))))), (0, .ref hS), (1, .int (nI b)), (2, .ref hr), (3, .ref ht)] dX4_chooseFrom_99 rfl (iinc_1 _) (by decide) rfl ?_
            refine V_goto x 13 dX4_chooseFrom_102 rfl ?_
            refine V.sub [2, 3, 4, 5, 1, 0] (lv' := [(0, .ref hS), (1, .int (nI b)), (2, .ref hr), (3, .ref ht), (4, .int (oN ((stp ch (some z25) (tx (b + j)))))), (5, .int (nI (b + (j + 1))))]) rfl ?_
            exact ih13 (n - (b + (j + 1))) (by omega) (j + 1) (stp ch (some z25) (tx (b + j))) f1 q1 (by omega) (by first | exact hf1 | exact fun i z hi hz => hf1 i z hi (by rw [va_up_ne _ _ hi] at hz; exact hz)) (by first | exact hf2 | (intro z hz; rw [va_up_self] at hz; cases hz; have := hf1 _ _ (show b + j + 1 ≠ b by omega) hq1; omega)) (by rw [hs, e1, f25]; unfold hsS; first | (rw [if_neg (by rw [t48]; simp)]; done) | (rw [if_neg (by rw [t69]; simp)]; done) | (rw [if_pos ⟨f48, f69⟩]; simp only [hq1, Option.getD_some])) rfl
          · skip
            refine V_aload_n x 0 dX4_chooseFrom_51 rfl rfl ?_
            refine V_get x 0 4 1 hinX4 rfl rfl (by decide) flX4_15 rfl dX4_chooseFrom_52 ?_
            refine V_iload x 5 dX4_chooseFrom_55 rfl ?_
            refine V_iconst (v := nI 1) x dX4_chooseFrom_57 (by decide +kernel) ?_
            refine V_iadd x (nI (b + j + 1)) dX4_chooseFrom_58 (nI_1 _) ?_
            refine V_iald x 2 0 rfl rfl dX4_chooseFrom_59 (by omega) (by omega) ?_
            refine V_aload_n x 0 dX4_chooseFrom_60 rfl rfl ?_
            refine V_get x 0 4 1 hinX4 rfl rfl (by decide) flX4_15 rfl dX4_chooseFrom_61 ?_
            refine V_iload_n x 1 dX4_chooseFrom_64 rfl rfl ?_
            refine V_iald x 2 0 rfl rfl dX4_chooseFrom_65 (by omega) (by omega) ?_
            refine V_callSi x (c_isNoWorse l D cI cZ cC cJ  (f1 (b + j + 1)) (f1 b) (fun z hz => by have := hf1 _ _ (show b + j + 1 ≠ b by omega) hz; omega) (fun z hz => by have := hf2 _ hz; omega)) 2 (gdS mlX4_49 stX4_isNoWorse inX4 coX4_isNoWorse) rfl hdX4_isNoWorse ⟨Nat.le_of_ble_eq_true rfl, Nat.le_of_ble_eq_true rfl⟩ ⟨rfl, rfl⟩ rfl [] [(hS, .inr (4, [.ref sw1, .ref sw2, .ref sw3])), (sw1, .inl (cJ, 61, .inr (.inl wy))), (sw2, .inl (cI, 61, .inl (fun i => oN (f1 i)))), (sw3, .inl (cI, 61, .inl (fun i => nI (q1 i)))), (hr, .inr (2, [.ref ar, .int (nI n)])), (ar, .inl (cC, m, .inl (fun i => nI (tx i)))), (ht, .inr (5, [.ref tc, .ref tw, .ref tf, .ref tb, .ref tl, .ref ts, .ref tq])), (tc, .inl (cI, 1688, .inl (fun i => oN (ch i)))), (tw, .inl (cZ, 211, .inl (fun i => bI (wh i)))), (tf, .inl (cI, 211, .inl (fun i => nI (hf i)))), (tb, .inl (cI, 211, .inl (fun i => nI (hb i)))), (tl, .inl (cI, 211, .inl (fun i => nI (ln i)))), (ts, .inl (cI, 211, .inl (fun i => oN (sw i)))), (tq, .inl (cI, 211, .inl (fun i => nI (od i))))] rfl rfl [] rfl rfl [] rfl rfl (rest := []) rfl (Nat.le_of_ble_eq_true rfl) dX4_chooseFrom_66 ⟨Nat.zero_le _, Nat.zero_le _⟩ ?_
            refine V_if_eqB x 99 dX4_chooseFrom_69 rfl (fun t69 => ?_) (fun f69 => ?_)
            · skip
              refine V_iinc x 5 5 [(5, .int (nI ((b + j) + 1))), (4, .int (oN (stp ch (some z25) (tx (b + j))))), (0, .ref hS), (1, .int (nI b)), (2, .ref hr), (3, .ref ht)] dX4_chooseFrom_99 rfl (iinc_1 _) (by decide) rfl ?_
              refine V_goto x 13 dX4_chooseFrom_102 rfl ?_
              refine V.sub [2, 3, 4, 5, 1, 0] (lv' := [(0, .ref hS), (1, .int (nI b)), (2, .ref hr), (3, .ref ht), (4, .int (oN ((stp ch (some z25) (tx (b + j)))))), (5, .int (nI (b + (j + 1))))]) rfl ?_
              exact ih13 (n - (b + (j + 1))) (by omega) (j + 1) (stp ch (some z25) (tx (b + j))) f1 q1 (by omega) (by first | exact hf1 | exact fun i z hi hz => hf1 i z hi (by rw [va_up_ne _ _ hi] at hz; exact hz)) (by first | exact hf2 | (intro z hz; rw [va_up_self] at hz; cases hz; have := hf1 _ _ (show b + j + 1 ≠ b by omega) hq1; omega)) (by rw [hs, e1, f25]; unfold hsS; first | (rw [if_neg (by rw [t48]; simp)]; done) | (rw [if_neg (by rw [t69]; simp)]; done) | (rw [if_pos ⟨f48, f69⟩]; simp only [hq1, Option.getD_some])) rfl
            · skip
              obtain ⟨q, hq1⟩ := nw_some f69
              refine V_aload_n x 0 dX4_chooseFrom_72 rfl rfl ?_
              refine V_get x 0 4 1 hinX4 rfl rfl (by decide) flX4_15 rfl dX4_chooseFrom_73 ?_
              refine V_iload_n x 1 dX4_chooseFrom_76 rfl rfl ?_
              refine V_aload_n x 0 dX4_chooseFrom_77 rfl rfl ?_
              refine V_get x 0 4 1 hinX4 rfl rfl (by decide) flX4_15 rfl dX4_chooseFrom_78 ?_
              refine V_iload x 5 dX4_chooseFrom_81 rfl ?_
              refine V_iconst (v := nI 1) x dX4_chooseFrom_83 (by decide +kernel) ?_
              refine V_iadd x (nI (b + j + 1)) dX4_chooseFrom_84 (nI_1 _) ?_
              refine V_iald x 2 0 rfl rfl dX4_chooseFrom_85 (by omega) (by omega) ?_
              refine V.ci (x' := nI q) (by rw [hq1]; rfl) ?_
              refine V_iconst (v := nI 1) x dX4_chooseFrom_86 (by decide +kernel) ?_
              refine V_iadd x (nI (q + 1)) dX4_chooseFrom_87 (nI_add _ _) ?_
              refine V_iast x 2 0 oN f1 (some (q + 1)) [(hS, .inr (4, [.ref sw1, .ref sw2, .ref sw3])), (sw1, .inl (cJ, 61, .inr (.inl wy))), (sw2, .inl (cI, 61, .inl (fun i => oN ((va_up f1 b (some (q + 1))) i)))), (sw3, .inl (cI, 61, .inl (fun i => nI (q1 i)))), (hr, .inr (2, [.ref ar, .int (nI n)])), (ar, .inl (cC, m, .inl (fun i => nI (tx i)))), (ht, .inr (5, [.ref tc, .ref tw, .ref tf, .ref tb, .ref tl, .ref ts, .ref tq])), (tc, .inl (cI, 1688, .inl (fun i => oN (ch i)))), (tw, .inl (cZ, 211, .inl (fun i => bI (wh i)))), (tf, .inl (cI, 211, .inl (fun i => nI (hf i)))), (tb, .inl (cI, 211, .inl (fun i => nI (hb i)))), (tl, .inl (cI, 211, .inl (fun i => nI (ln i)))), (ts, .inl (cI, 211, .inl (fun i => oN (sw i)))), (tq, .inl (cI, 211, .inl (fun i => nI (od i))))] rfl rfl dX4_chooseFrom_88 (by omega) (by omega) rfl ?_
              refine V_aload_n x 0 dX4_chooseFrom_89 rfl rfl ?_
              refine V_get x 0 4 2 hinX4 rfl rfl (by decide) flX4_19 rfl dX4_chooseFrom_90 ?_
              refine V_iload_n x 1 dX4_chooseFrom_93 rfl rfl ?_
              refine V_iload x 5 dX4_chooseFrom_94 rfl ?_
              refine V_iconst (v := nI 1) x dX4_chooseFrom_96 (by decide +kernel) ?_
              refine V_iadd x (nI (b + j + 1)) dX4_chooseFrom_97 (nI_1 _) ?_
              refine V_iast x 3 0 nI q1 (b + j + 1) [(hS, .inr (4, [.ref sw1, .ref sw2, .ref sw3])), (sw1, .inl (cJ, 61, .inr (.inl wy))), (sw2, .inl (cI, 61, .inl (fun i => oN ((va_up f1 b (some (q + 1))) i)))), (sw3, .inl (cI, 61, .inl (fun i => nI ((va_up q1 b (b + j + 1)) i)))), (hr, .inr (2, [.ref ar, .int (nI n)])), (ar, .inl (cC, m, .inl (fun i => nI (tx i)))), (ht, .inr (5, [.ref tc, .ref tw, .ref tf, .ref tb, .ref tl, .ref ts, .ref tq])), (tc, .inl (cI, 1688, .inl (fun i => oN (ch i)))), (tw, .inl (cZ, 211, .inl (fun i => bI (wh i)))), (tf, .inl (cI, 211, .inl (fun i => nI (hf i)))), (tb, .inl (cI, 211, .inl (fun i => nI (hb i)))), (tl, .inl (cI, 211, .inl (fun i => nI (ln i)))), (ts, .inl (cI, 211, .inl (fun i => oN (sw i)))), (tq, .inl (cI, 211, .inl (fun i => nI (od i))))] rfl rfl dX4_chooseFrom_98 (by omega) (by omega) rfl ?_
              refine V_iinc x 5 5 [(5, .int (nI ((b + j) + 1))), (4, .int (oN (stp ch (some z25) (tx (b + j))))), (0, .ref hS), (1, .int (nI b)), (2, .ref hr), (3, .ref ht)] dX4_chooseFrom_99 rfl (iinc_1 _) (by decide) rfl ?_
              refine V_goto x 13 dX4_chooseFrom_102 rfl ?_
              refine V.sub [2, 3, 4, 5, 1, 0] (lv' := [(0, .ref hS), (1, .int (nI b)), (2, .ref hr), (3, .ref ht), (4, .int (oN ((stp ch (some z25) (tx (b + j)))))), (5, .int (nI (b + (j + 1))))]) rfl ?_
              exact ih13 (n - (b + (j + 1))) (by omega) (j + 1) (stp ch (some z25) (tx (b + j))) (va_up f1 b (some (q + 1))) (va_up q1 b (b + j + 1)) (by omega) (by first | exact hf1 | exact fun i z hi hz => hf1 i z hi (by rw [va_up_ne _ _ hi] at hz; exact hz)) (by first | exact hf2 | (intro z hz; rw [va_up_self] at hz; cases hz; have := hf1 _ _ (show b + j + 1 ≠ b by omega) hq1; omega)) (by rw [hs, e1, f25]; unfold hsS; first | (rw [if_neg (by rw [t48]; simp)]; done) | (rw [if_neg (by rw [t69]; simp)]; done) | (rw [if_pos ⟨f48, f69⟩]; simp only [hq1, Option.getD_some])) rfl
  refine V.sub [2, 3, 4, 5, 1, 0] (lv' := [(0, .ref hS), (1, .int (nI b)), (2, .ref hr), (3, .ref ht), (4, .int (oN ((some 0)))), (5, .int (nI (b + 0)))]) rfl ?_
  exact L13 _ 0 (some 0) (va_up fw b none) fe (by omega) (fun i z hi hz => hfw i z hi (by rw [va_up_ne _ _ hi] at hz; exact hz)) (fun z hz => by rw [va_up_self] at hz; cases hz) rfl rfl
set_option maxHeartbeats 4000000 in
set_option maxRecDepth 100000 in
theorem c_choose (l : Launch) (D : va_G) (cI cZ cC cJ : ClassId) (hS sw1 sw2 sw3 hr ar ht tc tw tf tb tl ts tq : Nat) (wy : Nat → Int64) (fw : Nat → Option Nat) (fe : Nat → Nat) (m : Nat) (tx : Nat → Nat) (n : Nat) (ch : Nat → Option Nat) (wh : Nat → Bool) (hf : Nat → Nat) (hb : Nat → Nat) (ln : Nat → Nat) (sw : Nat → Option Nat) (od : Nat → Nat) (hrg : rg ch) (hn : n ≤ m) (hm : m < 1000) (htx : ∀ i, tx i < 65536) (hn60 : n ≤ 60) (hfw : ∀ i z, fw i = some z → z ≤ 300) : CI l yX4_choose wsX4_choose { frames := 3, cells := 0, slots := 0, locals := 70 } D vwCl (tys4 cI cZ cC cJ) [.ref hS, .ref hr, .ref ht] [(hS, .inr (4, [.ref sw1, .ref sw2, .ref sw3])), (sw1, .inl (cJ, 61, .inr (.inl wy))), (sw2, .inl (cI, 61, .inl (fun i => oN (fw i)))), (sw3, .inl (cI, 61, .inl (fun i => nI (fe i)))), (hr, .inr (2, [.ref ar, .int (nI n)])), (ar, .inl (cC, m, .inl (fun i => nI (tx i)))), (ht, .inr (5, [.ref tc, .ref tw, .ref tf, .ref tb, .ref tl, .ref ts, .ref tq])), (tc, .inl (cI, 1688, .inl (fun i => oN (ch i)))), (tw, .inl (cZ, 211, .inl (fun i => bI (wh i)))), (tf, .inl (cI, 211, .inl (fun i => nI (hf i)))), (tb, .inl (cI, 211, .inl (fun i => nI (hb i)))), (tl, .inl (cI, 211, .inl (fun i => nI (ln i)))), (ts, .inl (cI, 211, .inl (fun i => oN (sw i)))), (tq, .inl (cI, 211, .inl (fun i => nI (od i))))] ((oN ((chs ch wh tx n fw fe n).1 0))) [(hS, .inr (4, [.ref sw1, .ref sw2, .ref sw3])), (sw1, .inl (cJ, 61, .inr (.inl wy))), (sw2, .inl (cI, 61, .inl (fun i => oN (((chs ch wh tx n fw fe n).1) i)))), (sw3, .inl (cI, 61, .inl (fun i => nI (((chs ch wh tx n fw fe n).2) i)))), (hr, .inr (2, [.ref ar, .int (nI n)])), (ar, .inl (cC, m, .inl (fun i => nI (tx i)))), (ht, .inr (5, [.ref tc, .ref tw, .ref tf, .ref tb, .ref tl, .ref ts, .ref tq])), (tc, .inl (cI, 1688, .inl (fun i => oN (ch i)))), (tw, .inl (cZ, 211, .inl (fun i => bI (wh i)))), (tf, .inl (cI, 211, .inl (fun i => nI (hf i)))), (tb, .inl (cI, 211, .inl (fun i => nI (hb i)))), (tl, .inl (cI, 211, .inl (fun i => nI (ln i)))), (ts, .inl (cI, 211, .inl (fun i => oN (sw i)))), (tq, .inl (cI, 211, .inl (fun i => nI (od i))))] := by
  refine CI.ofV rfl (by decide +kernel) rfl (Nat.le_of_ble_eq_true rfl) ?_
  intro κ x hret
  refine V_aload_n x 0 dX4_choose_0 rfl rfl ?_
  refine V_get x 0 4 1 hinX4 rfl rfl (by decide) flX4_15 rfl dX4_choose_1 ?_
  refine V_aload_n x 1 dX4_choose_4 rfl rfl ?_
  refine V_callVi x (c_Line_size l D cI cZ cC cJ hr ar m tx n ) 0 (gdV mlX4_22 imX2_size seX2_size inX2 coX2_size) rfl hdX2_size ⟨Nat.le_of_ble_eq_true rfl, Nat.le_of_ble_eq_true rfl⟩ ⟨rfl, rfl⟩ 4 rfl rfl rfl [4, 5] [(hS, .inr (4, [.ref sw1, .ref sw2, .ref sw3])), (sw1, .inl (cJ, 61, .inr (.inl wy))), (sw2, .inl (cI, 61, .inl (fun i => oN (fw i)))), (sw3, .inl (cI, 61, .inl (fun i => nI (fe i)))), (hr, .inr (2, [.ref ar, .int (nI n)])), (ar, .inl (cC, m, .inl (fun i => nI (tx i)))), (ht, .inr (5, [.ref tc, .ref tw, .ref tf, .ref tb, .ref tl, .ref ts, .ref tq])), (tc, .inl (cI, 1688, .inl (fun i => oN (ch i)))), (tw, .inl (cZ, 211, .inl (fun i => bI (wh i)))), (tf, .inl (cI, 211, .inl (fun i => nI (hf i)))), (tb, .inl (cI, 211, .inl (fun i => nI (hb i)))), (tl, .inl (cI, 211, .inl (fun i => nI (ln i)))), (ts, .inl (cI, 211, .inl (fun i => oN (sw i)))), (tq, .inl (cI, 211, .inl (fun i => nI (od i))))] rfl rfl [hr, ar] rfl rfl [none, none, none, none, some 0, some 1] rfl rfl (rest := [.ref sw2]) rfl (Nat.le_of_ble_eq_true rfl) dX4_choose_5 ⟨Nat.zero_le _, Nat.zero_le _⟩ ?_
  refine V_iconst (v := nI 0) x dX4_choose_8 (by decide +kernel) ?_
  refine V_iast x 2 0 oN fw (some 0) [(hS, .inr (4, [.ref sw1, .ref sw2, .ref sw3])), (sw1, .inl (cJ, 61, .inr (.inl wy))), (sw2, .inl (cI, 61, .inl (fun i => oN ((va_up fw n (some 0)) i)))), (sw3, .inl (cI, 61, .inl (fun i => nI (fe i)))), (hr, .inr (2, [.ref ar, .int (nI n)])), (ar, .inl (cC, m, .inl (fun i => nI (tx i)))), (ht, .inr (5, [.ref tc, .ref tw, .ref tf, .ref tb, .ref tl, .ref ts, .ref tq])), (tc, .inl (cI, 1688, .inl (fun i => oN (ch i)))), (tw, .inl (cZ, 211, .inl (fun i => bI (wh i)))), (tf, .inl (cI, 211, .inl (fun i => nI (hf i)))), (tb, .inl (cI, 211, .inl (fun i => nI (hb i)))), (tl, .inl (cI, 211, .inl (fun i => nI (ln i)))), (ts, .inl (cI, 211, .inl (fun i => oN (sw i)))), (tq, .inl (cI, 211, .inl (fun i => nI (od i))))] rfl rfl dX4_choose_9 (by omega) (by omega) rfl ?_
  refine V_aload_n x 1 dX4_choose_10 rfl rfl ?_
  refine V_callVi x (c_Line_size l D cI cZ cC cJ hr ar m tx n ) 0 (gdV mlX4_22 imX2_size seX2_size inX2 coX2_size) rfl hdX2_size ⟨Nat.le_of_ble_eq_true rfl, Nat.le_of_ble_eq_true rfl⟩ ⟨rfl, rfl⟩ 4 rfl rfl rfl [4, 5] [(hS, .inr (4, [.ref sw1, .ref sw2, .ref sw3])), (sw1, .inl (cJ, 61, .inr (.inl wy))), (sw2, .inl (cI, 61, .inl (fun i => oN ((va_up fw n (some 0)) i)))), (sw3, .inl (cI, 61, .inl (fun i => nI (fe i)))), (hr, .inr (2, [.ref ar, .int (nI n)])), (ar, .inl (cC, m, .inl (fun i => nI (tx i)))), (ht, .inr (5, [.ref tc, .ref tw, .ref tf, .ref tb, .ref tl, .ref ts, .ref tq])), (tc, .inl (cI, 1688, .inl (fun i => oN (ch i)))), (tw, .inl (cZ, 211, .inl (fun i => bI (wh i)))), (tf, .inl (cI, 211, .inl (fun i => nI (hf i)))), (tb, .inl (cI, 211, .inl (fun i => nI (hb i)))), (tl, .inl (cI, 211, .inl (fun i => nI (ln i)))), (ts, .inl (cI, 211, .inl (fun i => oN (sw i)))), (tq, .inl (cI, 211, .inl (fun i => nI (od i))))] rfl rfl [hr, ar] rfl rfl [none, none, none, none, some 0, some 1] rfl rfl (rest := []) rfl (Nat.le_of_ble_eq_true rfl) dX4_choose_11 ⟨Nat.zero_le _, Nat.zero_le _⟩ ?_
  refine V_iconst (v := nI 1) x dX4_choose_14 (by decide +kernel) ?_
  refine V_isub x (oN (prd n)) dX4_choose_15 (prd_sub _) ?_
  refine V_istore_n x 3 [(3, .int (oN (prd n))), (0, .ref hS), (1, .ref hr), (2, .ref ht)] dX4_choose_16 rfl (by decide) rfl ?_
  have L17 : ∀ (k17 : Nat) (k : Nat) (f1 : Nat → Option Nat) (q1 : Nat → Nat) (hk : k ≤ n) (hf1 : ∀ i z, f1 i = some z → z ≤ 300 + (n - k)) (e1 : chs ch wh tx n fw fe (n - k) = (f1, q1)) (hk17 : k = k17), V κ 0 0 [(hS, .inr (4, [.ref sw1, .ref sw2, .ref sw3])), (sw1, .inl (cJ, 61, .inr (.inl wy))), (sw2, .inl (cI, 61, .inl (fun i => oN (f1 i)))), (sw3, .inl (cI, 61, .inl (fun i => nI (q1 i)))), (hr, .inr (2, [.ref ar, .int (nI n)])), (ar, .inl (cC, m, .inl (fun i => nI (tx i)))), (ht, .inr (5, [.ref tc, .ref tw, .ref tf, .ref tb, .ref tl, .ref ts, .ref tq])), (tc, .inl (cI, 1688, .inl (fun i => oN (ch i)))), (tw, .inl (cZ, 211, .inl (fun i => bI (wh i)))), (tf, .inl (cI, 211, .inl (fun i => nI (hf i)))), (tb, .inl (cI, 211, .inl (fun i => nI (hb i)))), (tl, .inl (cI, 211, .inl (fun i => nI (ln i)))), (ts, .inl (cI, 211, .inl (fun i => oN (sw i)))), (tq, .inl (cI, 211, .inl (fun i => nI (od i))))] 17 [(0, .ref hS), (1, .ref hr), (2, .ref ht), (3, .int (oN (prd k)))] [] := by
    intro k17
    induction k17 using Nat.strongRecOn with
    | ind k17 ih17 =>
      intro k f1 q1 hk hf1 e1 hk17
      refine V_iload_n x 3 dX4_choose_17 rfl rfl ?_
      refine V_if_ltO x 34 dX4_choose_18 rfl (fun z hz => by have := prd_some hz; omega) (fun t18 => ?_) (fun z18 f18 => ?_)
      · skip
        simp only [t18, oN_none]
        refine V_aload_n x 0 dX4_choose_34 rfl rfl ?_
        refine V_get x 0 4 1 hinX4 rfl rfl (by decide) flX4_15 rfl dX4_choose_35 ?_
        refine V_iconst (v := nI 0) x dX4_choose_38 (by decide +kernel) ?_
        refine V_iald x 2 0 rfl rfl dX4_choose_39 (by omega) (by omega) ?_
        obtain rfl := prd_none t18
        rw [Nat.sub_zero] at e1
        rw [e1] at hret
        exact hret _ _ dX4_choose_40
      · skip
        simp only [f18, oN_some]
        obtain rfl := prd_some f18
        refine V_aload_n x 0 dX4_choose_21 rfl rfl ?_
        refine V_iload_n x 3 dX4_choose_22 rfl rfl ?_
        refine V_aload_n x 1 dX4_choose_23 rfl rfl ?_
        refine V_aload_n x 2 dX4_choose_24 rfl rfl ?_
        refine V_callVv x (c_chooseFrom l D cI cZ cC cJ hS sw1 sw2 sw3 hr ar ht tc tw tf tb tl ts tq wy f1 q1 m tx n ch wh hf hb ln sw od z18 (by first | omega | assumption) (by first | omega | assumption) (by first | omega | assumption) (by first | omega | assumption) (by first | omega | assumption) (by first | omega | assumption) (fun i z _ hz => by have := hf1 i z hz; omega)) 3 (gdV mlX4_46 imX4_chooseFrom seX4_chooseFrom inX4 coX4_chooseFrom) rfl hdX4_chooseFrom ⟨Nat.le_of_ble_eq_true rfl, Nat.le_of_ble_eq_true rfl⟩ ⟨rfl, rfl⟩ 0 rfl rfl rfl [0, 1, 2, 3, 4, 5, 6, 7, 8, 9, 10, 11, 12, 13] [(hS, .inr (4, [.ref sw1, .ref sw2, .ref sw3])), (sw1, .inl (cJ, 61, .inr (.inl wy))), (sw2, .inl (cI, 61, .inl (fun i => oN (((hs ch wh tx z18 f1 q1 (n - z18)).2.1) i)))), (sw3, .inl (cI, 61, .inl (fun i => nI (((hs ch wh tx z18 f1 q1 (n - z18)).2.2) i)))), (hr, .inr (2, [.ref ar, .int (nI n)])), (ar, .inl (cC, m, .inl (fun i => nI (tx i)))), (ht, .inr (5, [.ref tc, .ref tw, .ref tf, .ref tb, .ref tl, .ref ts, .ref tq])), (tc, .inl (cI, 1688, .inl (fun i => oN (ch i)))), (tw, .inl (cZ, 211, .inl (fun i => bI (wh i)))), (tf, .inl (cI, 211, .inl (fun i => nI (hf i)))), (tb, .inl (cI, 211, .inl (fun i => nI (hb i)))), (tl, .inl (cI, 211, .inl (fun i => nI (ln i)))), (ts, .inl (cI, 211, .inl (fun i => oN (sw i)))), (tq, .inl (cI, 211, .inl (fun i => nI (od i))))] rfl rfl [hS, sw1, sw2, sw3, hr, ar, ht, tc, tw, tf, tb, tl, ts, tq] rfl rfl [some 0, some 1, some 2, some 3, some 4, some 5, some 6, some 7, some 8, some 9, some 10, some 11, some 12, some 13] rfl rfl (rest := []) rfl (Nat.le_of_ble_eq_true rfl) dX4_choose_25 ⟨Nat.zero_le _, Nat.zero_le _⟩ ?_
        refine V_iinc x 3 3 [(3, .int (oN (prd z18))), (0, .ref hS), (1, .ref hr), (2, .ref ht)] dX4_choose_28 rfl (prd_inc _) (by decide) rfl ?_
        refine V_goto x 17 dX4_choose_31 rfl ?_
        refine V.sub [1, 2, 3, 0] (lv' := [(0, .ref hS), (1, .ref hr), (2, .ref ht), (3, .int (oN (prd z18)))]) rfl ?_
        exact ih17 (z18) (by omega) z18 ((hs ch wh tx z18 f1 q1 (n - z18)).2.1) ((hs ch wh tx z18 f1 q1 (n - z18)).2.2) (by omega) (fun i z hz => by have := hs_le (fun i z _ hz => hf1 i z hz) _ i z hz; omega) (chs_step (by omega) e1) rfl
  refine V.sub [1, 2, 3, 0] (lv' := [(0, .ref hS), (1, .ref hr), (2, .ref ht), (3, .int (oN (prd n)))]) rfl ?_
  exact L17 _ n (va_up fw n (some 0)) fe (by omega) (fun i z hz => by have := upO_le hfw (show 0 ≤ 300 by omega) i z hz; omega) (by rw [Nat.sub_self]; rfl) rfl
set_option maxHeartbeats 4000000 in
set_option maxRecDepth 100000 in
theorem c_write (l : Launch) (D : va_G) (cI cZ cC cJ : ClassId) (hS sw1 sw2 sw3 hr ar h3 a3 : Nat) (wy : Nat → Int64) (fw : Nat → Option Nat) (fe : Nat → Nat) (m : Nat) (tx : Nat → Nat) (n : Nat) (m3 : Nat) (px : Nat → Nat) (n3 : Nat) (hn : n ≤ m) (hm : m < 1000) (htx : ∀ i, tx i < 65536) (hn60 : n ≤ 60) (hm3 : 119 ≤ m3) (hm4 : m3 < 1000) (h0 : 0 < n → 0 < fe 0) (hfe : ∀ i, fe i < 1000) : CV l yX4_write wsX4_write { frames := 1, cells := 0, slots := 0, locals := 21 } D vwCl (tys4 cI cZ cC cJ) [.ref hS, .ref hr, .ref h3] [(hS, .inr (4, [.ref sw1, .ref sw2, .ref sw3])), (sw1, .inl (cJ, 61, .inr (.inl wy))), (sw2, .inl (cI, 61, .inl (fun i => oN (fw i)))), (sw3, .inl (cI, 61, .inl (fun i => nI (fe i)))), (hr, .inr (2, [.ref ar, .int (nI n)])), (ar, .inl (cC, m, .inl (fun i => nI (tx i)))), (h3, .inr (2, [.ref a3, .int (nI n3)])), (a3, .inl (cC, m3, .inl (fun i => nI (px i))))] [(hS, .inr (4, [.ref sw1, .ref sw2, .ref sw3])), (sw1, .inl (cJ, 61, .inr (.inl wy))), (sw2, .inl (cI, 61, .inl (fun i => oN (fw i)))), (sw3, .inl (cI, 61, .inl (fun i => nI (fe i)))), (hr, .inr (2, [.ref ar, .int (nI n)])), (ar, .inl (cC, m, .inl (fun i => nI (tx i)))), (h3, .inr (2, [.ref a3, .int (nI ((wr tx fe px n).2.2))])), (a3, .inl (cC, m3, .inl (fun i => nI (((wr tx fe px n).2.1) i))))] := by
  refine CV.ofV (by decide +kernel) rfl (Nat.le_of_ble_eq_true rfl) ?_
  intro κ x hret
  refine V_aload_n x 2 dX4_write_0 rfl rfl ?_
  refine V_callVi x (c_Line_empty l D cI cZ cC cJ h3 a3 m3 px n3 ) 0 (gdV mlX4_53 imX2_empty seX2_empty inX2 coX2_empty) rfl hdX2_empty ⟨Nat.le_of_ble_eq_true rfl, Nat.le_of_ble_eq_true rfl⟩ ⟨rfl, rfl⟩ 6 rfl rfl rfl [6, 7] [(hS, .inr (4, [.ref sw1, .ref sw2, .ref sw3])), (sw1, .inl (cJ, 61, .inr (.inl wy))), (sw2, .inl (cI, 61, .inl (fun i => oN (fw i)))), (sw3, .inl (cI, 61, .inl (fun i => nI (fe i)))), (hr, .inr (2, [.ref ar, .int (nI n)])), (ar, .inl (cC, m, .inl (fun i => nI (tx i)))), (h3, .inr (2, [.ref a3, .int (nI 0)])), (a3, .inl (cC, m3, .inl (fun i => nI (px i))))] rfl rfl [h3, a3] rfl rfl [none, none, none, none, none, none, some 0, some 1] rfl rfl (rest := []) rfl (Nat.le_of_ble_eq_true rfl) dX4_write_1 ⟨Nat.zero_le _, Nat.zero_le _⟩ ?_
  refine V_pop x dX4_write_4 rfl ?_
  refine V_aload_n x 0 dX4_write_5 rfl rfl ?_
  refine V_get x 0 4 2 hinX4 rfl rfl (by decide) flX4_19 rfl dX4_write_6 ?_
  refine V_iconst (v := nI 0) x dX4_write_9 (by decide +kernel) ?_
  refine V_iald x 3 0 rfl rfl dX4_write_10 (by omega) (by omega) ?_
  refine V_istore_n x 3 [(3, .int (nI (fe 0))), (0, .ref hS), (1, .ref hr), (2, .ref h3)] dX4_write_11 rfl (by decide) rfl ?_
  refine V_iconst (v := nI 0) x dX4_write_12 (by decide +kernel) ?_
  refine V_istore x 4 [(4, .int (nI 0)), (3, .int (nI (fe 0))), (0, .ref hS), (1, .ref hr), (2, .ref h3)] dX4_write_13 (by decide) rfl ?_
  have L15 : ∀ (k15 : Nat) (k : Nat) (e : Nat) (p1 : Nat → Nat) (c1 : Nat) (hk : k ≤ n) (hc1 : c1 ≤ 2 * k ∧ (0 < k → c1 + 1 ≤ 2 * k)) (he : e < 1000) (he0 : k = 0 → k < n → 0 < e) (e1 : wr tx fe px k = (e, p1, c1)) (hk15 : n - k = k15), V κ 0 0 [(hS, .inr (4, [.ref sw1, .ref sw2, .ref sw3])), (sw1, .inl (cJ, 61, .inr (.inl wy))), (sw2, .inl (cI, 61, .inl (fun i => oN (fw i)))), (sw3, .inl (cI, 61, .inl (fun i => nI (fe i)))), (hr, .inr (2, [.ref ar, .int (nI n)])), (ar, .inl (cC, m, .inl (fun i => nI (tx i)))), (h3, .inr (2, [.ref a3, .int (nI c1)])), (a3, .inl (cC, m3, .inl (fun i => nI (p1 i))))] 15 [(0, .ref hS), (1, .ref hr), (2, .ref h3), (3, .int (nI e)), (4, .int (nI k))] [] := by
    intro k15
    induction k15 using Nat.strongRecOn with
    | ind k15 ih15 =>
      intro k e p1 c1 hk hc1 he he0 e1 hk15
      refine V_iload x 4 dX4_write_15 rfl ?_
      refine V_aload_n x 1 dX4_write_17 rfl rfl ?_
      refine V_callVi x (c_Line_size l D cI cZ cC cJ hr ar m tx n ) 0 (gdV mlX4_22 imX2_size seX2_size inX2 coX2_size) rfl hdX2_size ⟨Nat.le_of_ble_eq_true rfl, Nat.le_of_ble_eq_true rfl⟩ ⟨rfl, rfl⟩ 4 rfl rfl rfl [4, 5] [(hS, .inr (4, [.ref sw1, .ref sw2, .ref sw3])), (sw1, .inl (cJ, 61, .inr (.inl wy))), (sw2, .inl (cI, 61, .inl (fun i => oN (fw i)))), (sw3, .inl (cI, 61, .inl (fun i => nI (fe i)))), (hr, .inr (2, [.ref ar, .int (nI n)])), (ar, .inl (cC, m, .inl (fun i => nI (tx i)))), (h3, .inr (2, [.ref a3, .int (nI c1)])), (a3, .inl (cC, m3, .inl (fun i => nI (p1 i))))] rfl rfl [hr, ar] rfl rfl [none, none, none, none, some 0, some 1] rfl rfl (rest := [.int (nI k)]) rfl (Nat.le_of_ble_eq_true rfl) dX4_write_18 ⟨Nat.zero_le _, Nat.zero_le _⟩ ?_
      refine V_icmp_geN x 62 dX4_write_21 rfl (fun t21 => ?_) (fun f21 => ?_)
      · skip
        obtain rfl : k = n := by omega
        rw [e1] at hret
        exact hret _ _ dX4_write_62
      · skip
        refine V_iload x 4 dX4_write_24 rfl ?_
        refine V_iload_n x 3 dX4_write_26 rfl rfl ?_
        refine V_icmp_neN x 45 dX4_write_27 rfl (fun t27 => ?_) (fun f27 => ?_)
        · skip
          refine V_aload_n x 2 dX4_write_45 rfl rfl ?_
          refine V_aload_n x 1 dX4_write_46 rfl rfl ?_
          refine V_iload x 4 dX4_write_47 rfl ?_
          refine V_callVi x (c_Line_at l D cI cZ cC cJ hr ar m tx n k (by first | omega | assumption) (by first | omega | assumption) (by first | omega | assumption) (by first | omega | assumption)) 1 (gdV mlX4_34 imX2_at seX2_at inX2 coX2_at) rfl hdX2_at ⟨Nat.le_of_ble_eq_true rfl, Nat.le_of_ble_eq_true rfl⟩ ⟨rfl, rfl⟩ 4 rfl rfl rfl [4, 5] [(hS, .inr (4, [.ref sw1, .ref sw2, .ref sw3])), (sw1, .inl (cJ, 61, .inr (.inl wy))), (sw2, .inl (cI, 61, .inl (fun i => oN (fw i)))), (sw3, .inl (cI, 61, .inl (fun i => nI (fe i)))), (hr, .inr (2, [.ref ar, .int (nI n)])), (ar, .inl (cC, m, .inl (fun i => nI (tx i)))), (h3, .inr (2, [.ref a3, .int (nI c1)])), (a3, .inl (cC, m3, .inl (fun i => nI (p1 i))))] rfl rfl [hr, ar] rfl rfl [none, none, none, none, some 0, some 1] rfl rfl (rest := [.ref h3]) rfl (Nat.le_of_ble_eq_true rfl) dX4_write_49 ⟨Nat.zero_le _, Nat.zero_le _⟩ ?_
          refine V_callVi x (c_Line_put l D cI cZ cC cJ h3 a3 m3 p1 c1 (tx k) (by first | omega | assumption) (by first | omega | assumption) (htx k)) 1 (gdV mlX4_56 imX2_put seX2_put inX2 coX2_put) rfl hdX2_put ⟨Nat.le_of_ble_eq_true rfl, Nat.le_of_ble_eq_true rfl⟩ ⟨rfl, rfl⟩ 6 rfl rfl rfl [6, 7] [(hS, .inr (4, [.ref sw1, .ref sw2, .ref sw3])), (sw1, .inl (cJ, 61, .inr (.inl wy))), (sw2, .inl (cI, 61, .inl (fun i => oN (fw i)))), (sw3, .inl (cI, 61, .inl (fun i => nI (fe i)))), (hr, .inr (2, [.ref ar, .int (nI n)])), (ar, .inl (cC, m, .inl (fun i => nI (tx i)))), (h3, .inr (2, [.ref a3, .int (nI (c1 + 1))])), (a3, .inl (cC, m3, .inl (fun i => nI ((va_up p1 c1 (tx k)) i))))] rfl rfl [h3, a3] rfl rfl [none, none, none, none, none, none, some 0, some 1] rfl rfl (rest := []) rfl (Nat.le_of_ble_eq_true rfl) dX4_write_52 ⟨Nat.zero_le _, Nat.zero_le _⟩ ?_
          refine V_pop x dX4_write_55 rfl ?_
          refine V_iinc x 4 4 [(4, .int (nI (k + 1))), (0, .ref hS), (1, .ref hr), (2, .ref h3), (3, .int (nI e))] dX4_write_56 rfl (iinc_1 _) (by decide) rfl ?_
          refine V_goto x 15 dX4_write_59 rfl ?_
          refine V.sub [1, 2, 3, 4, 0] (lv' := [(0, .ref hS), (1, .ref hr), (2, .ref h3), (3, .int (nI e)), (4, .int (nI ((k + 1))))]) rfl ?_
          exact ih15 (n - (k + 1)) (by omega) (k + 1) e (va_up p1 c1 (tx k)) (c1 + 1) (by omega) (by omega) (by first | exact he | exact hfe k) (fun q _ => by omega) (by rw [wr, e1]; unfold wrS; first | (rw [if_neg t27]; done) | (rw [if_pos f27])) rfl
        · skip
          refine V_aload_n x 2 dX4_write_30 rfl rfl ?_
          refine V_bipush (v := nI 46) x dX4_write_31 (by decide +kernel) ?_
          refine V_callVi x (c_Line_put l D cI cZ cC cJ h3 a3 m3 p1 c1 46 (by first | omega | assumption) (by first | omega | assumption) (by first | omega | assumption)) 1 (gdV mlX4_56 imX2_put seX2_put inX2 coX2_put) rfl hdX2_put ⟨Nat.le_of_ble_eq_true rfl, Nat.le_of_ble_eq_true rfl⟩ ⟨rfl, rfl⟩ 6 rfl rfl rfl [6, 7] [(hS, .inr (4, [.ref sw1, .ref sw2, .ref sw3])), (sw1, .inl (cJ, 61, .inr (.inl wy))), (sw2, .inl (cI, 61, .inl (fun i => oN (fw i)))), (sw3, .inl (cI, 61, .inl (fun i => nI (fe i)))), (hr, .inr (2, [.ref ar, .int (nI n)])), (ar, .inl (cC, m, .inl (fun i => nI (tx i)))), (h3, .inr (2, [.ref a3, .int (nI (c1 + 1))])), (a3, .inl (cC, m3, .inl (fun i => nI ((va_up p1 c1 46) i))))] rfl rfl [h3, a3] rfl rfl [none, none, none, none, none, none, some 0, some 1] rfl rfl (rest := []) rfl (Nat.le_of_ble_eq_true rfl) dX4_write_33 ⟨Nat.zero_le _, Nat.zero_le _⟩ ?_
          refine V_pop x dX4_write_36 rfl ?_
          refine V_aload_n x 0 dX4_write_37 rfl rfl ?_
          refine V_get x 0 4 2 hinX4 rfl rfl (by decide) flX4_19 rfl dX4_write_38 ?_
          refine V_iload x 4 dX4_write_41 rfl ?_
          refine V_iald x 3 0 rfl rfl dX4_write_43 (by omega) (by omega) ?_
          refine V_istore_n x 3 [(3, .int (nI (fe k))), (0, .ref hS), (1, .ref hr), (2, .ref h3), (4, .int (nI k))] dX4_write_44 rfl (by decide) rfl ?_
          refine V_aload_n x 2 dX4_write_45 rfl rfl ?_
          refine V_aload_n x 1 dX4_write_46 rfl rfl ?_
          refine V_iload x 4 dX4_write_47 rfl ?_
          refine V_callVi x (c_Line_at l D cI cZ cC cJ hr ar m tx n k (by first | omega | assumption) (by first | omega | assumption) (by first | omega | assumption) (by first | omega | assumption)) 1 (gdV mlX4_34 imX2_at seX2_at inX2 coX2_at) rfl hdX2_at ⟨Nat.le_of_ble_eq_true rfl, Nat.le_of_ble_eq_true rfl⟩ ⟨rfl, rfl⟩ 4 rfl rfl rfl [4, 5] [(hS, .inr (4, [.ref sw1, .ref sw2, .ref sw3])), (sw1, .inl (cJ, 61, .inr (.inl wy))), (sw2, .inl (cI, 61, .inl (fun i => oN (fw i)))), (sw3, .inl (cI, 61, .inl (fun i => nI (fe i)))), (hr, .inr (2, [.ref ar, .int (nI n)])), (ar, .inl (cC, m, .inl (fun i => nI (tx i)))), (h3, .inr (2, [.ref a3, .int (nI (c1 + 1))])), (a3, .inl (cC, m3, .inl (fun i => nI ((va_up p1 c1 46) i))))] rfl rfl [hr, ar] rfl rfl [none, none, none, none, some 0, some 1] rfl rfl (rest := [.ref h3]) rfl (Nat.le_of_ble_eq_true rfl) dX4_write_49 ⟨Nat.zero_le _, Nat.zero_le _⟩ ?_
          refine V_callVi x (c_Line_put l D cI cZ cC cJ h3 a3 m3 (va_up p1 c1 46) (c1 + 1) (tx k) (by first | omega | assumption) (by first | omega | assumption) (htx k)) 1 (gdV mlX4_56 imX2_put seX2_put inX2 coX2_put) rfl hdX2_put ⟨Nat.le_of_ble_eq_true rfl, Nat.le_of_ble_eq_true rfl⟩ ⟨rfl, rfl⟩ 6 rfl rfl rfl [6, 7] [(hS, .inr (4, [.ref sw1, .ref sw2, .ref sw3])), (sw1, .inl (cJ, 61, .inr (.inl wy))), (sw2, .inl (cI, 61, .inl (fun i => oN (fw i)))), (sw3, .inl (cI, 61, .inl (fun i => nI (fe i)))), (hr, .inr (2, [.ref ar, .int (nI n)])), (ar, .inl (cC, m, .inl (fun i => nI (tx i)))), (h3, .inr (2, [.ref a3, .int (nI ((c1 + 1) + 1))])), (a3, .inl (cC, m3, .inl (fun i => nI ((va_up (va_up p1 c1 46) (c1 + 1) (tx k)) i))))] rfl rfl [h3, a3] rfl rfl [none, none, none, none, none, none, some 0, some 1] rfl rfl (rest := []) rfl (Nat.le_of_ble_eq_true rfl) dX4_write_52 ⟨Nat.zero_le _, Nat.zero_le _⟩ ?_
          refine V_pop x dX4_write_55 rfl ?_
          refine V_iinc x 4 4 [(4, .int (nI (k + 1))), (3, .int (nI (fe k))), (0, .ref hS), (1, .ref hr), (2, .ref h3)] dX4_write_56 rfl (iinc_1 _) (by decide) rfl ?_
          refine V_goto x 15 dX4_write_59 rfl ?_
          refine V.sub [2, 3, 4, 1, 0] (lv' := [(0, .ref hS), (1, .ref hr), (2, .ref h3), (3, .int (nI ((fe k)))), (4, .int (nI ((k + 1))))]) rfl ?_
          exact ih15 (n - (k + 1)) (by omega) (k + 1) (fe k) (va_up (va_up p1 c1 46) (c1 + 1) (tx k)) ((c1 + 1) + 1) (by omega) (by omega) (by first | exact he | exact hfe k) (fun q _ => by omega) (by rw [wr, e1]; unfold wrS; first | (rw [if_neg t27]; done) | (rw [if_pos f27])) rfl
  refine V.sub [2, 3, 4, 1, 0] (lv' := [(0, .ref hS), (1, .ref hr), (2, .ref h3), (3, .int (nI ((fe 0)))), (4, .int (nI 0))]) rfl ?_
  exact L15 _ 0 (fe 0) px 0 (by omega) (by omega) (hfe 0) (fun _ q => h0 q) rfl rfl
