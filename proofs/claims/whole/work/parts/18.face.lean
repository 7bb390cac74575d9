set_option maxHeartbeats 4000000 in
set_option maxRecDepth 100000 in
theorem x_isWord (l : Launch) (D : va_G) (cI cZ cC cJ : ClassId) (hr ar : Nat) (m : Nat) (tx : Nat → Nat) (n : Nat) (hn : n ≤ m) (hm : m < 1000) (htx : ∀ i, tx i < 65536) : CI l yX6_isWord wsX6_isWord { frames := 1, cells := 0, slots := 0, locals := 21 } D vwCl (tys4 cI cZ cC cJ) [.ref hr] [(hr, .inr (2, [.ref ar, .int (nI n)])), (ar, .inl (cC, m, .inl (fun i => nI (tx i))))] ((bI (alw tx n && decide (1 ≤ n ∧ n ≤ 7)))) [(hr, .inr (2, [.ref ar, .int (nI n)])), (ar, .inl (cC, m, .inl (fun i => nI (tx i))))] := by
  refine CI.ofV (nar_bI2 _) (by decide +kernel) rfl (Nat.le_of_ble_eq_true rfl) ?_
  intro κ x hret
  refine V_iconst (v := nI 0) x dX6_isWord_0 (by decide +kernel) ?_
  refine V_istore_n x 1 [(1, .int (nI 0)), (0, .ref hr)] dX6_isWord_1 rfl (by decide) rfl ?_
  have L2 : ∀ (k2 : Nat) (k : Nat) (hk : k ≤ n) (e1 : alw tx k = true) (hk2 : n - k = k2), V κ 0 0 [(hr, .inr (2, [.ref ar, .int (nI n)])), (ar, .inl (cC, m, .inl (fun i => nI (tx i))))] 2 [(0, .ref hr), (1, .int (nI k))] [] := by
    intro k2
    induction k2 using Nat.strongRecOn with
    | ind k2 ih2 =>
      intro k hk e1 hk2
      refine V_iload_n x 1 dX6_isWord_2 rfl rfl ?_
      refine V_aload_n x 0 dX6_isWord_3 rfl rfl ?_
      refine V_callVi x (c_Line_size l D cI cZ cC cJ hr ar m tx n ) 0 (gdV mlX6_104 imX2_size seX2_size inX2 coX2_size) rfl hdX2_size ⟨Nat.le_of_ble_eq_true rfl, Nat.le_of_ble_eq_true rfl⟩ ⟨rfl, rfl⟩ 0 rfl rfl rfl [0, 1] [(hr, .inr (2, [.ref ar, .int (nI n)])), (ar, .inl (cC, m, .inl (fun i => nI (tx i))))] rfl rfl [hr, ar] rfl rfl [some 0, some 1] rfl rfl (rest := [.int (nI k)]) rfl (Nat.le_of_ble_eq_true rfl) dX6_isWord_4 ⟨Nat.zero_le _, Nat.zero_le _⟩ ?_
      refine V_icmp_geN x 30 dX6_isWord_7 rfl (fun t7 => ?_) (fun f7 => ?_)
      · skip
        refine V_aload_n x 0 dX6_isWord_30 rfl rfl ?_
        refine V_callVi x (c_Line_size l D cI cZ cC cJ hr ar m tx n ) 0 (gdV mlX6_104 imX2_size seX2_size inX2 coX2_size) rfl hdX2_size ⟨Nat.le_of_ble_eq_true rfl, Nat.le_of_ble_eq_true rfl⟩ ⟨rfl, rfl⟩ 0 rfl rfl rfl [0, 1] [(hr, .inr (2, [.ref ar, .int (nI n)])), (ar, .inl (cC, m, .inl (fun i => nI (tx i))))] rfl rfl [hr, ar] rfl rfl [some 0, some 1] rfl rfl (rest := []) rfl (Nat.le_of_ble_eq_true rfl) dX6_isWord_31 ⟨Nat.zero_le _, Nat.zero_le _⟩ ?_
        refine V_iconst (v := nI 1) x dX6_isWord_34 (by decide +kernel) ?_
        refine V_icmp_ltN x 51 dX6_isWord_35 rfl (fun t35 => ?_) (fun f35 => ?_)
        · skip
          refine V_iconst (v := nI 0) x dX6_isWord_51 (by decide +kernel) ?_
          refine V.ci (x' := bI (alw tx n && decide (1 ≤ n ∧ n ≤ 7))) (by obtain rfl : k = n := (by omega); rw [e1]; first | (rw [decide_eq_true (by omega)]; rfl) | (rw [decide_eq_false (by omega)]; rfl)) ?_
          exact hret _ _ dX6_isWord_52
        · skip
          refine V_aload_n x 0 dX6_isWord_38 rfl rfl ?_
          refine V_callVi x (c_Line_size l D cI cZ cC cJ hr ar m tx n ) 0 (gdV mlX6_104 imX2_size seX2_size inX2 coX2_size) rfl hdX2_size ⟨Nat.le_of_ble_eq_true rfl, Nat.le_of_ble_eq_true rfl⟩ ⟨rfl, rfl⟩ 0 rfl rfl rfl [0, 1] [(hr, .inr (2, [.ref ar, .int (nI n)])), (ar, .inl (cC, m, .inl (fun i => nI (tx i))))] rfl rfl [hr, ar] rfl rfl [some 0, some 1] rfl rfl (rest := []) rfl (Nat.le_of_ble_eq_true rfl) dX6_isWord_39 ⟨Nat.zero_le _, Nat.zero_le _⟩ ?_
          refine V_bipush (v := nI 7) x dX6_isWord_42 (by decide +kernel) ?_
          refine V_icmp_gtN x 51 dX6_isWord_44 rfl (fun t44 => ?_) (fun f44 => ?_)
          · skip
            refine V_iconst (v := nI 0) x dX6_isWord_51 (by decide +kernel) ?_
            refine V.ci (x' := bI (alw tx n && decide (1 ≤ n ∧ n ≤ 7))) (by obtain rfl : k = n := (by omega); rw [e1]; first | (rw [decide_eq_true (by omega)]; rfl) | (rw [decide_eq_false (by omega)]; rfl)) ?_
            exact hret _ _ dX6_isWord_52
          · skip
            refine V_iconst (v := nI 1) x dX6_isWord_47 (by decide +kernel) ?_
            refine V_goto x 52 dX6_isWord_48 rfl ?_
            refine V.ci (x' := bI (alw tx n && decide (1 ≤ n ∧ n ≤ 7))) (by obtain rfl : k = n := (by omega); rw [e1]; first | (rw [decide_eq_true (by omega)]; rfl) | (rw [decide_eq_false (by omega)]; rfl)) ?_
            exact hret _ _ dX6_isWord_52
      · skip
        refine V_aload_n x 0 dX6_isWord_10 rfl rfl ?_
        refine V_iload_n x 1 dX6_isWord_11 rfl rfl ?_
        refine V_callVi x (c_Line_at l D cI cZ cC cJ hr ar m tx n k (by first | omega | assumption) (by first | omega | assumption) (by first | omega | assumption) (by first | omega | assumption)) 1 (gdV mlX6_114 imX2_at seX2_at inX2 coX2_at) rfl hdX2_at ⟨Nat.le_of_ble_eq_true rfl, Nat.le_of_ble_eq_true rfl⟩ ⟨rfl, rfl⟩ 0 rfl rfl rfl [0, 1] [(hr, .inr (2, [.ref ar, .int (nI n)])), (ar, .inl (cC, m, .inl (fun i => nI (tx i))))] rfl rfl [hr, ar] rfl rfl [some 0, some 1] rfl rfl (rest := []) rfl (Nat.le_of_ble_eq_true rfl) dX6_isWord_12 ⟨Nat.zero_le _, Nat.zero_le _⟩ ?_
        refine V_callSi x (c_letterOf l D cI cZ cC cJ  (tx k) (htx k)) 1 (gdS mlX6_174 stX6_letterOf inX6 coX6_letterOf) rfl hdX6_letterOf ⟨Nat.le_of_ble_eq_true rfl, Nat.le_of_ble_eq_true rfl⟩ ⟨rfl, rfl⟩ rfl [] [(hr, .inr (2, [.ref ar, .int (nI n)])), (ar, .inl (cC, m, .inl (fun i => nI (tx i))))] rfl rfl [] rfl rfl [] rfl rfl (rest := []) rfl (Nat.le_of_ble_eq_true rfl) dX6_isWord_15 ⟨Nat.zero_le _, Nat.zero_le _⟩ ?_
        refine V_iconst (v := (-1)) x dX6_isWord_18 (by decide +kernel) ?_
        refine V_icmp_neO x 24 dX6_isWord_19 rfl (fun z hz => by have := ltr_lt hz; omega) (fun z19 t19 => ?_) (fun f19 => ?_)
        · skip
          refine V_iinc x 1 1 [(1, .int (nI (k + 1))), (0, .ref hr)] dX6_isWord_24 rfl (iinc_1 _) (by decide) rfl ?_
          refine V_goto x 2 dX6_isWord_27 rfl ?_
          refine V.sub [1, 0] (lv' := [(0, .ref hr), (1, .int (nI ((k + 1))))]) rfl ?_
          exact ih2 (n - (k + 1)) (by omega) (k + 1) (by omega) (by rw [alw, e1, t19]; rfl) rfl
        · skip
          refine V_iconst (v := nI 0) x dX6_isWord_22 (by decide +kernel) ?_
          refine V.ci (x' := bI (alw tx n && decide (1 ≤ n ∧ n ≤ 7))) (by rw [alw_no f19 (by omega)]; rfl) ?_
          exact hret _ _ dX6_isWord_23
  refine V.sub [1, 0] (lv' := [(0, .ref hr), (1, .int (nI 0))]) rfl ?_
  exact L2 _ 0 (by omega) rfl rfl
set_option maxHeartbeats 4000000 in
set_option maxRecDepth 100000 in
theorem x_longest (l : Launch) (D : va_G) (cI cZ cC cJ : ClassId) (hx hr h3 h4 ht ha hF hR hS ar tc tw tf tb tl ts tq : Nat) (tx : Nat → Nat) (n : Nat) (ch : Nat → Option Nat) (wh : Nat → Bool) (hf : Nat → Nat) (hb : Nat → Nat) (ln : Nat → Nat) (sw : Nat → Option Nat) (od : Nat → Nat) (hrg : rg ch) (hn60 : n ≤ 60) (htx : ∀ i, tx i < 65536) : CI l yX6_longest wsX6_longest { frames := 2, cells := 0, slots := 0, locals := 45 } D vwCl (tys4 cI cZ cC cJ) [.ref hx] [(hx, .inr (6, [.ref hr, .ref h3, .ref h4, .ref ht, .ref ha, .ref hF, .ref hR, .ref hS])), (hr, .inr (2, [.ref ar, .int (nI n)])), (ar, .inl (cC, 60, .inl (fun i => nI (tx i)))), (ht, .inr (5, [.ref tc, .ref tw, .ref tf, .ref tb, .ref tl, .ref ts, .ref tq])), (tc, .inl (cI, 1688, .inl (fun i => oN (ch i)))), (tw, .inl (cZ, 211, .inl (fun i => bI (wh i)))), (tf, .inl (cI, 211, .inl (fun i => nI (hf i)))), (tb, .inl (cI, 211, .inl (fun i => nI (hb i)))), (tl, .inl (cI, 211, .inl (fun i => nI (ln i)))), (ts, .inl (cI, 211, .inl (fun i => oN (sw i)))), (tq, .inl (cI, 211, .inl (fun i => nI (od i))))] ((oN ((lgs ch wh hb tx n).1))) [(hx, .inr (6, [.ref hr, .ref h3, .ref h4, .ref ht, .ref ha, .ref hF, .ref hR, .ref hS])), (hr, .inr (2, [.ref ar, .int (nI 0)])), (ar, .inl (cC, 60, .inl (fun i => nI (tx i)))), (ht, .inr (5, [.ref tc, .ref tw, .ref tf, .ref tb, .ref tl, .ref ts, .ref tq])), (tc, .inl (cI, 1688, .inl (fun i => oN (ch i)))), (tw, .inl (cZ, 211, .inl (fun i => bI (wh i)))), (tf, .inl (cI, 211, .inl (fun i => nI (hf i)))), (tb, .inl (cI, 211, .inl (fun i => nI (hb i)))), (tl, .inl (cI, 211, .inl (fun i => nI (ln i)))), (ts, .inl (cI, 211, .inl (fun i => oN (sw i)))), (tq, .inl (cI, 211, .inl (fun i => nI (od i))))] := by
  refine CI.ofV rfl (by decide +kernel) rfl (Nat.le_of_ble_eq_true rfl) ?_
  intro κ x hret
  refine V_iconst (v := (-1)) x dX6_longest_0 (by decide +kernel) ?_
  refine V_istore_n x 1 [(1, .int (-1)), (0, .ref hx)] dX6_longest_1 rfl (by decide) rfl ?_
  refine V_iconst (v := nI 0) x dX6_longest_2 (by decide +kernel) ?_
  refine V_istore_n x 2 [(2, .int (nI 0)), (1, .int (-1)), (0, .ref hx)] dX6_longest_3 rfl (by decide) rfl ?_
  refine V_iconst (v := nI 0) x dX6_longest_4 (by decide +kernel) ?_
  refine V_istore_n x 3 [(3, .int (nI 0)), (2, .int (nI 0)), (1, .int (-1)), (0, .ref hx)] dX6_longest_5 rfl (by decide) rfl ?_
  have L6 : ∀ (k6 : Nat) (k : Nat) (b1 : Option Nat) (o1 : Option Nat) (hk : k ≤ n) (e1 : lgs ch wh hb tx k = (b1, o1)) (hk6 : n - k = k6), V κ 0 0 [(hx, .inr (6, [.ref hr, .ref h3, .ref h4, .ref ht, .ref ha, .ref hF, .ref hR, .ref hS])), (hr, .inr (2, [.ref ar, .int (nI n)])), (ar, .inl (cC, 60, .inl (fun i => nI (tx i)))), (ht, .inr (5, [.ref tc, .ref tw, .ref tf, .ref tb, .ref tl, .ref ts, .ref tq])), (tc, .inl (cI, 1688, .inl (fun i => oN (ch i)))), (tw, .inl (cZ, 211, .inl (fun i => bI (wh i)))), (tf, .inl (cI, 211, .inl (fun i => nI (hf i)))), (tb, .inl (cI, 211, .inl (fun i => nI (hb i)))), (tl, .inl (cI, 211, .inl (fun i => nI (ln i)))), (ts, .inl (cI, 211, .inl (fun i => oN (sw i)))), (tq, .inl (cI, 211, .inl (fun i => nI (od i))))] 6 [(0, .ref hx), (1, .int (oN b1)), (2, .int (oN o1)), (3, .int (nI k))] [] := by
    intro k6
    induction k6 using Nat.strongRecOn with
    | ind k6 ih6 =>
      intro k b1 o1 hk e1 hk6
      refine V_iload_n x 3 dX6_longest_6 rfl rfl ?_
      refine V_aload_n x 0 dX6_longest_7 rfl rfl ?_
      refine V_get x 0 6 0 hinX6 rfl rfl (by decide) flX6_14 rfl dX6_longest_8 ?_
      refine V_callVi x (c_Line_size l D cI cZ cC cJ hr ar 60 tx n ) 0 (gdV mlX6_104 imX2_size seX2_size inX2 coX2_size) rfl hdX2_size ⟨Nat.le_of_ble_eq_true rfl, Nat.le_of_ble_eq_true rfl⟩ ⟨rfl, rfl⟩ 1 rfl rfl rfl [1, 2] [(hx, .inr (6, [.ref hr, .ref h3, .ref h4, .ref ht, .ref ha, .ref hF, .ref hR, .ref hS])), (hr, .inr (2, [.ref ar, .int (nI n)])), (ar, .inl (cC, 60, .inl (fun i => nI (tx i)))), (ht, .inr (5, [.ref tc, .ref tw, .ref tf, .ref tb, .ref tl, .ref ts, .ref tq])), (tc, .inl (cI, 1688, .inl (fun i => oN (ch i)))), (tw, .inl (cZ, 211, .inl (fun i => bI (wh i)))), (tf, .inl (cI, 211, .inl (fun i => nI (hf i)))), (tb, .inl (cI, 211, .inl (fun i => nI (hb i)))), (tl, .inl (cI, 211, .inl (fun i => nI (ln i)))), (ts, .inl (cI, 211, .inl (fun i => oN (sw i)))), (tq, .inl (cI, 211, .inl (fun i => nI (od i))))] rfl rfl [hr, ar] rfl rfl [none, some 0, some 1] rfl rfl (rest := [.int (nI k)]) rfl (Nat.le_of_ble_eq_true rfl) dX6_longest_11 ⟨Nat.zero_le _, Nat.zero_le _⟩ ?_
      refine V_icmp_geN x 65 dX6_longest_14 rfl (fun t14 => ?_) (fun f14 => ?_)
      · skip
        refine V_aload_n x 0 dX6_longest_65 rfl rfl ?_
        refine V_get x 0 6 0 hinX6 rfl rfl (by decide) flX6_14 rfl dX6_longest_66 ?_
        refine V_callVi x (c_Line_empty l D cI cZ cC cJ hr ar 60 tx n ) 0 (gdV mlX6_63 imX2_empty seX2_empty inX2 coX2_empty) rfl hdX2_empty ⟨Nat.le_of_ble_eq_true rfl, Nat.le_of_ble_eq_true rfl⟩ ⟨rfl, rfl⟩ 1 rfl rfl rfl [1, 2] [(hx, .inr (6, [.ref hr, .ref h3, .ref h4, .ref ht, .ref ha, .ref hF, .ref hR, .ref hS])), (hr, .inr (2, [.ref ar, .int (nI 0)])), (ar, .inl (cC, 60, .inl (fun i => nI (tx i)))), (ht, .inr (5, [.ref tc, .ref tw, .ref tf, .ref tb, .ref tl, .ref ts, .ref tq])), (tc, .inl (cI, 1688, .inl (fun i => oN (ch i)))), (tw, .inl (cZ, 211, .inl (fun i => bI (wh i)))), (tf, .inl (cI, 211, .inl (fun i => nI (hf i)))), (tb, .inl (cI, 211, .inl (fun i => nI (hb i)))), (tl, .inl (cI, 211, .inl (fun i => nI (ln i)))), (ts, .inl (cI, 211, .inl (fun i => oN (sw i)))), (tq, .inl (cI, 211, .inl (fun i => nI (od i))))] rfl rfl [hr, ar] rfl rfl [none, some 0, some 1] rfl rfl (rest := []) rfl (Nat.le_of_ble_eq_true rfl) dX6_longest_69 ⟨Nat.zero_le _, Nat.zero_le _⟩ ?_
        refine V_pop x dX6_longest_72 rfl ?_
        refine V_iload_n x 1 dX6_longest_73 rfl rfl ?_
        first
        | (have e9 := Nat.le_antisymm hk t14; subst e9; rw [e1] at hret)
        | (subst t19; rw [lgs_none e1 hk] at hret)
        exact hret _ _ dX6_longest_74
      · skip
        refine V_iload_n x 2 dX6_longest_17 rfl rfl ?_
        refine V_iconst (v := (-1)) x dX6_longest_18 (by decide +kernel) ?_
        refine V_icmp_eqO x 65 dX6_longest_19 rfl (fun z hz => by subst hz; exact lt31 (lgs_lt hrg e1)) (fun t19 => ?_) (fun z19 f19 => ?_)
        · skip
          simp only [t19, oN_none]
          refine V_aload_n x 0 dX6_longest_65 rfl rfl ?_
          refine V_get x 0 6 0 hinX6 rfl rfl (by decide) flX6_14 rfl dX6_longest_66 ?_
          refine V_callVi x (c_Line_empty l D cI cZ cC cJ hr ar 60 tx n ) 0 (gdV mlX6_63 imX2_empty seX2_empty inX2 coX2_empty) rfl hdX2_empty ⟨Nat.le_of_ble_eq_true rfl, Nat.le_of_ble_eq_true rfl⟩ ⟨rfl, rfl⟩ 1 rfl rfl rfl [1, 2] [(hx, .inr (6, [.ref hr, .ref h3, .ref h4, .ref ht, .ref ha, .ref hF, .ref hR, .ref hS])), (hr, .inr (2, [.ref ar, .int (nI 0)])), (ar, .inl (cC, 60, .inl (fun i => nI (tx i)))), (ht, .inr (5, [.ref tc, .ref tw, .ref tf, .ref tb, .ref tl, .ref ts, .ref tq])), (tc, .inl (cI, 1688, .inl (fun i => oN (ch i)))), (tw, .inl (cZ, 211, .inl (fun i => bI (wh i)))), (tf, .inl (cI, 211, .inl (fun i => nI (hf i)))), (tb, .inl (cI, 211, .inl (fun i => nI (hb i)))), (tl, .inl (cI, 211, .inl (fun i => nI (ln i)))), (ts, .inl (cI, 211, .inl (fun i => oN (sw i)))), (tq, .inl (cI, 211, .inl (fun i => nI (od i))))] rfl rfl [hr, ar] rfl rfl [none, some 0, some 1] rfl rfl (rest := []) rfl (Nat.le_of_ble_eq_true rfl) dX6_longest_69 ⟨Nat.zero_le _, Nat.zero_le _⟩ ?_
          refine V_pop x dX6_longest_72 rfl ?_
          refine V_iload_n x 1 dX6_longest_73 rfl rfl ?_
          first
          | (have e9 := Nat.le_antisymm hk t14; subst e9; rw [e1] at hret)
          | (subst t19; rw [lgs_none e1 hk] at hret)
          exact hret _ _ dX6_longest_74
        · skip
          simp only [f19, oN_some]
          refine V_aload_n x 0 dX6_longest_22 rfl rfl ?_
          refine V_get x 0 6 3 hinX6 rfl rfl (by decide) flX6_27 rfl dX6_longest_23 ?_
          refine V_iload_n x 2 dX6_longest_26 rfl rfl ?_
          refine V_aload_n x 0 dX6_longest_27 rfl rfl ?_
          refine V_get x 0 6 0 hinX6 rfl rfl (by decide) flX6_14 rfl dX6_longest_28 ?_
          refine V_iload_n x 3 dX6_longest_31 rfl rfl ?_
          refine V_callVi x (c_Line_at l D cI cZ cC cJ hr ar 60 tx n k (by first | omega | assumption) (by first | omega | assumption) (by first | omega | assumption) (by first | omega | assumption)) 1 (gdV mlX6_114 imX2_at seX2_at inX2 coX2_at) rfl hdX2_at ⟨Nat.le_of_ble_eq_true rfl, Nat.le_of_ble_eq_true rfl⟩ ⟨rfl, rfl⟩ 1 rfl rfl rfl [1, 2] [(hx, .inr (6, [.ref hr, .ref h3, .ref h4, .ref ht, .ref ha, .ref hF, .ref hR, .ref hS])), (hr, .inr (2, [.ref ar, .int (nI n)])), (ar, .inl (cC, 60, .inl (fun i => nI (tx i)))), (ht, .inr (5, [.ref tc, .ref tw, .ref tf, .ref tb, .ref tl, .ref ts, .ref tq])), (tc, .inl (cI, 1688, .inl (fun i => oN (ch i)))), (tw, .inl (cZ, 211, .inl (fun i => bI (wh i)))), (tf, .inl (cI, 211, .inl (fun i => nI (hf i)))), (tb, .inl (cI, 211, .inl (fun i => nI (hb i)))), (tl, .inl (cI, 211, .inl (fun i => nI (ln i)))), (ts, .inl (cI, 211, .inl (fun i => oN (sw i)))), (tq, .inl (cI, 211, .inl (fun i => nI (od i))))] rfl rfl [hr, ar] rfl rfl [none, some 0, some 1] rfl rfl (rest := [.int (nI z19), .ref ht]) rfl (Nat.le_of_ble_eq_true rfl) dX6_longest_32 ⟨Nat.zero_le _, Nat.zero_le _⟩ ?_
          refine V_callVi x (c_step l D cI cZ cC cJ ht tc tw tf tb tl ts tq ch wh hf hb ln sw od (some z19) (tx k) (by first | omega | assumption) (fun z hz => by cases hz; subst f19; exact lgs_lt hrg e1) (htx _)) 2 (gdV mlX6_118 imX5_step seX5_step inX5 coX5_step) rfl hdX5_step ⟨Nat.le_of_ble_eq_true rfl, Nat.le_of_ble_eq_true rfl⟩ ⟨rfl, rfl⟩ 3 rfl rfl rfl [3, 4, 5, 6, 7, 8, 9, 10] [(hx, .inr (6, [.ref hr, .ref h3, .ref h4, .ref ht, .ref ha, .ref hF, .ref hR, .ref hS])), (hr, .inr (2, [.ref ar, .int (nI n)])), (ar, .inl (cC, 60, .inl (fun i => nI (tx i)))), (ht, .inr (5, [.ref tc, .ref tw, .ref tf, .ref tb, .ref tl, .ref ts, .ref tq])), (tc, .inl (cI, 1688, .inl (fun i => oN (ch i)))), (tw, .inl (cZ, 211, .inl (fun i => bI (wh i)))), (tf, .inl (cI, 211, .inl (fun i => nI (hf i)))), (tb, .inl (cI, 211, .inl (fun i => nI (hb i)))), (tl, .inl (cI, 211, .inl (fun i => nI (ln i)))), (ts, .inl (cI, 211, .inl (fun i => oN (sw i)))), (tq, .inl (cI, 211, .inl (fun i => nI (od i))))] rfl rfl [ht, tc, tw, tf, tb, tl, ts, tq] rfl rfl [none, none, none, some 0, some 1, some 2, some 3, some 4, some 5, some 6, some 7] rfl rfl (rest := []) rfl (Nat.le_of_ble_eq_true rfl) dX6_longest_35 ⟨Nat.zero_le _, Nat.zero_le _⟩ ?_
          refine V_istore_n x 2 [(2, .int (oN (stp ch (some z19) (tx k)))), (0, .ref hx), (1, .int (oN b1)), (3, .int (nI k))] dX6_longest_38 rfl (by decide) rfl ?_
          refine V_aload_n x 0 dX6_longest_39 rfl rfl ?_
          refine V_get x 0 6 3 hinX6 rfl rfl (by decide) flX6_27 rfl dX6_longest_40 ?_
          refine V_iload_n x 2 dX6_longest_43 rfl rfl ?_
          refine V_callVi x (c_isHeld l D cI cZ cC cJ ht tc tw tf tb tl ts tq ch wh hf hb ln sw od (stp ch (some z19) (tx k)) (fun z hz => stp_lt hrg hz)) 1 (gdV mlX6_85 imX5_isHeld seX5_isHeld inX5 coX5_isHeld) rfl hdX5_isHeld ⟨Nat.le_of_ble_eq_true rfl, Nat.le_of_ble_eq_true rfl⟩ ⟨rfl, rfl⟩ 3 rfl rfl rfl [3, 4, 5, 6, 7, 8, 9, 10] [(hx, .inr (6, [.ref hr, .ref h3, .ref h4, .ref ht, .ref ha, .ref hF, .ref hR, .ref hS])), (hr, .inr (2, [.ref ar, .int (nI n)])), (ar, .inl (cC, 60, .inl (fun i => nI (tx i)))), (ht, .inr (5, [.ref tc, .ref tw, .ref tf, .ref tb, .ref tl, .ref ts, .ref tq])), (tc, .inl (cI, 1688, .inl (fun i => oN (ch i)))), (tw, .inl (cZ, 211, .inl (fun i => bI (wh i)))), (tf, .inl (cI, 211, .inl (fun i => nI (hf i)))), (tb, .inl (cI, 211, .inl (fun i => nI (hb i)))), (tl, .inl (cI, 211, .inl (fun i => nI (ln i)))), (ts, .inl (cI, 211, .inl (fun i => oN (sw i)))), (tq, .inl (cI, 211, .inl (fun i => nI (od i))))] rfl rfl [ht, tc, tw, tf, tb, tl, ts, tq] rfl rfl [none, none, none, some 0, some 1, some 2, some 3, some 4, some 5, some 6, some 7] rfl rfl (rest := []) rfl (Nat.le_of_ble_eq_true rfl) dX6_longest_44 ⟨Nat.zero_le _, Nat.zero_le _⟩ ?_
          refine V_if_eqB x 59 dX6_longest_47 rfl (fun t47 => ?_) (fun f47 => ?_)
          · skip
            refine V_iinc x 3 3 [(3, .int (nI (k + 1))), (2, .int (oN (stp ch (some z19) (tx k)))), (0, .ref hx), (1, .int (oN b1))] dX6_longest_59 rfl (iinc_1 _) (by decide) rfl ?_
            refine V_goto x 6 dX6_longest_62 rfl ?_
            refine V.sub [2, 3, 1, 0] (lv' := [(0, .ref hx), (1, .int (oN b1)), (2, .int (oN ((stp ch (some z19) (tx k))))), (3, .int (nI ((k + 1))))]) rfl ?_
            exact ih6 (n - (k + 1)) (by omega) (k + 1) b1 (stp ch (some z19) (tx k)) (by omega) (by rw [lgs, e1, f19]; first | (rw [if_neg (by rw [t47]; decide)]; done) | (rw [if_pos f47, hz]; rfl)) rfl
          · skip
            obtain ⟨z, hz⟩ := whO_t f47
            simp only [hz, oN_some]
            refine V_aload_n x 0 dX6_longest_50 rfl rfl ?_
            refine V_get x 0 6 3 hinX6 rfl rfl (by decide) flX6_27 rfl dX6_longest_51 ?_
            refine V_iload_n x 2 dX6_longest_54 rfl rfl ?_
            refine V_callVi x (c_numberOf l D cI cZ cC cJ ht tc tw tf tb tl ts tq ch wh hf hb ln sw od z (stp_lt hrg hz)) 1 (gdV mlX6_107 imX5_numberOf seX5_numberOf inX5 coX5_numberOf) rfl hdX5_numberOf ⟨Nat.le_of_ble_eq_true rfl, Nat.le_of_ble_eq_true rfl⟩ ⟨rfl, rfl⟩ 3 rfl rfl rfl [3, 4, 5, 6, 7, 8, 9, 10] [(hx, .inr (6, [.ref hr, .ref h3, .ref h4, .ref ht, .ref ha, .ref hF, .ref hR, .ref hS])), (hr, .inr (2, [.ref ar, .int (nI n)])), (ar, .inl (cC, 60, .inl (fun i => nI (tx i)))), (ht, .inr (5, [.ref tc, .ref tw, .ref tf, .ref tb, .ref tl, .ref ts, .ref tq])), (tc, .inl (cI, 1688, .inl (fun i => oN (ch i)))), (tw, .inl (cZ, 211, .inl (fun i => bI (wh i)))), (tf, .inl (cI, 211, .inl (fun i => nI (hf i)))), (tb, .inl (cI, 211, .inl (fun i => nI (hb i)))), (tl, .inl (cI, 211, .inl (fun i => nI (ln i)))), (ts, .inl (cI, 211, .inl (fun i => oN (sw i)))), (tq, .inl (cI, 211, .inl (fun i => nI (od i))))] rfl rfl [ht, tc, tw, tf, tb, tl, ts, tq] rfl rfl [none, none, none, some 0, some 1, some 2, some 3, some 4, some 5, some 6, some 7] rfl rfl (rest := []) rfl (Nat.le_of_ble_eq_true rfl) dX6_longest_55 ⟨Nat.zero_le _, Nat.zero_le _⟩ ?_
            refine V_istore_n x 1 [(1, .int (nI (hb z))), (2, .int (nI z)), (0, .ref hx), (3, .int (nI k))] dX6_longest_58 rfl (by decide) rfl ?_
            refine V_iinc x 3 3 [(3, .int (nI (k + 1))), (1, .int (nI (hb z))), (2, .int (nI z)), (0, .ref hx)] dX6_longest_59 rfl (iinc_1 _) (by decide) rfl ?_
            refine V_goto x 6 dX6_longest_62 rfl ?_
            refine V.sub [3, 1, 2, 0] (lv' := [(0, .ref hx), (1, .int (oN ((some (hb z))))), (2, .int (oN ((some z)))), (3, .int (nI ((k + 1))))]) rfl ?_
            exact ih6 (n - (k + 1)) (by omega) (k + 1) (some (hb z)) (some z) (by omega) (by rw [lgs, e1, f19]; first | (rw [if_neg (by rw [t47]; decide)]; done) | (rw [if_pos f47, hz]; rfl)) rfl
  refine V.sub [3, 2, 1, 0] (lv' := [(0, .ref hx), (1, .int (oN none)), (2, .int (oN ((some 0)))), (3, .int (nI 0))]) rfl ?_
  exact L6 _ 0 none (some 0) (by omega) rfl rfl
set_option maxHeartbeats 4000000 in
set_option maxRecDepth 100000 in
theorem x_findEnding (l : Launch) (D : va_G) (cI cZ cC cJ : ClassId) (hx hr h3 h4 ht ha hF hR hS tc tw tf tb tl ts tq fa fb : Nat) (ch : Nat → Option Nat) (wh : Nat → Bool) (hf : Nat → Nat) (hb : Nat → Nat) (ln : Nat → Nat) (sw : Nat → Option Nat) (od : Nat → Nat) (fu : Nat → Nat) (fv : Nat → Nat) (fk : Nat) (p : Nat) (b : Nat) (hsw : rg sw) (hp : p < 211) (hk7 : fk + 7 ≤ 420) : CV l yX6_findEnding wsX6_findEnding { frames := 1, cells := 0, slots := 0, locals := 22 } D vwCl (tys4 cI cZ cC cJ) [.ref hx, .int (nI p), .int (nI b)] [(hx, .inr (6, [.ref hr, .ref h3, .ref h4, .ref ht, .ref ha, .ref hF, .ref hR, .ref hS])), (ht, .inr (5, [.ref tc, .ref tw, .ref tf, .ref tb, .ref tl, .ref ts, .ref tq])), (tc, .inl (cI, 1688, .inl (fun i => oN (ch i)))), (tw, .inl (cZ, 211, .inl (fun i => bI (wh i)))), (tf, .inl (cI, 211, .inl (fun i => nI (hf i)))), (tb, .inl (cI, 211, .inl (fun i => nI (hb i)))), (tl, .inl (cI, 211, .inl (fun i => nI (ln i)))), (ts, .inl (cI, 211, .inl (fun i => oN (sw i)))), (tq, .inl (cI, 211, .inl (fun i => nI (od i)))), (hF, .inr (1, [.ref fa, .ref fb, .int (nI fk)])), (fa, .inl (cI, 420, .inl (fun i => nI (fu i)))), (fb, .inl (cI, 420, .inl (fun i => nI (fv i))))] [(hx, .inr (6, [.ref hr, .ref h3, .ref h4, .ref ht, .ref ha, .ref hF, .ref hR, .ref hS])), (ht, .inr (5, [.ref tc, .ref tw, .ref tf, .ref tb, .ref tl, .ref ts, .ref tq])), (tc, .inl (cI, 1688, .inl (fun i => oN (ch i)))), (tw, .inl (cZ, 211, .inl (fun i => bI (wh i)))), (tf, .inl (cI, 211, .inl (fun i => nI (hf i)))), (tb, .inl (cI, 211, .inl (fun i => nI (hb i)))), (tl, .inl (cI, 211, .inl (fun i => nI (ln i)))), (ts, .inl (cI, 211, .inl (fun i => oN (sw i)))), (tq, .inl (cI, 211, .inl (fun i => nI (od i)))), (hF, .inr (1, [.ref fa, .ref fb, .int (nI ((fed sw hb b (at0 wh sw p, fu, fv, fk) n7).2.2.2))])), (fa, .inl (cI, 420, .inl (fun i => nI (((fed sw hb b (at0 wh sw p, fu, fv, fk) n7).2.1) i)))), (fb, .inl (cI, 420, .inl (fun i => nI (((fed sw hb b (at0 wh sw p, fu, fv, fk) n7).2.2.1) i))))] := by
  refine CV.ofV (by decide +kernel) rfl (Nat.le_of_ble_eq_true rfl) ?_
  intro κ x hret
  refine V_aload_n x 0 dX6_findEnding_0 rfl rfl ?_
  refine V_get x 0 6 3 hinX6 rfl rfl (by decide) flX6_27 rfl dX6_findEnding_1 ?_
  refine V_iload_n x 1 dX6_findEnding_4 rfl rfl ?_
  refine V_callVi x (c_isHeld l D cI cZ cC cJ ht tc tw tf tb tl ts tq ch wh hf hb ln sw od (some p) (fun z hz => by cases hz; exact hp)) 1 (gdV mlX6_85 imX5_isHeld seX5_isHeld inX5 coX5_isHeld) rfl hdX5_isHeld ⟨Nat.le_of_ble_eq_true rfl, Nat.le_of_ble_eq_true rfl⟩ ⟨rfl, rfl⟩ 1 rfl rfl rfl [1, 2, 3, 4, 5, 6, 7, 8] [(hx, .inr (6, [.ref hr, .ref h3, .ref h4, .ref ht, .ref ha, .ref hF, .ref hR, .ref hS])), (ht, .inr (5, [.ref tc, .ref tw, .ref tf, .ref tb, .ref tl, .ref ts, .ref tq])), (tc, .inl (cI, 1688, .inl (fun i => oN (ch i)))), (tw, .inl (cZ, 211, .inl (fun i => bI (wh i)))), (tf, .inl (cI, 211, .inl (fun i => nI (hf i)))), (tb, .inl (cI, 211, .inl (fun i => nI (hb i)))), (tl, .inl (cI, 211, .inl (fun i => nI (ln i)))), (ts, .inl (cI, 211, .inl (fun i => oN (sw i)))), (tq, .inl (cI, 211, .inl (fun i => nI (od i)))), (hF, .inr (1, [.ref fa, .ref fb, .int (nI fk)])), (fa, .inl (cI, 420, .inl (fun i => nI (fu i)))), (fb, .inl (cI, 420, .inl (fun i => nI (fv i))))] rfl rfl [ht, tc, tw, tf, tb, tl, ts, tq] rfl rfl [none, some 0, some 1, some 2, some 3, some 4, some 5, some 6, some 7] rfl rfl (rest := []) rfl (Nat.le_of_ble_eq_true rfl) dX6_findEnding_5 ⟨Nat.zero_le _, Nat.zero_le _⟩ ?_
  refine V.ci (x' := bI (wh p)) rfl ?_
  have J23 : V κ 0 0 [(hx, .inr (6, [.ref hr, .ref h3, .ref h4, .ref ht, .ref ha, .ref hF, .ref hR, .ref hS])), (ht, .inr (5, [.ref tc, .ref tw, .ref tf, .ref tb, .ref tl, .ref ts, .ref tq])), (tc, .inl (cI, 1688, .inl (fun i => oN (ch i)))), (tw, .inl (cZ, 211, .inl (fun i => bI (wh i)))), (tf, .inl (cI, 211, .inl (fun i => nI (hf i)))), (tb, .inl (cI, 211, .inl (fun i => nI (hb i)))), (tl, .inl (cI, 211, .inl (fun i => nI (ln i)))), (ts, .inl (cI, 211, .inl (fun i => oN (sw i)))), (tq, .inl (cI, 211, .inl (fun i => nI (od i)))), (hF, .inr (1, [.ref fa, .ref fb, .int (nI fk)])), (fa, .inl (cI, 420, .inl (fun i => nI (fu i)))), (fb, .inl (cI, 420, .inl (fun i => nI (fv i))))] 23 [(0, .ref hx), (1, .int (nI p)), (2, .int (nI b))] [.int (oN (at0 wh sw p))] := by
    refine V_istore_n x 3 [(3, .int (oN (at0 wh sw p))), (0, .ref hx), (1, .int (nI p)), (2, .int (nI b))] dX6_findEnding_23 rfl (by decide) rfl ?_
    refine V_iconst (v := nI 0) x dX6_findEnding_24 (by decide +kernel) ?_
    refine V_istore x 4 [(4, .int (nI 0)), (3, .int (oN (at0 wh sw p))), (0, .ref hx), (1, .int (nI p)), (2, .int (nI b))] dX6_findEnding_25 (by decide) rfl ?_
    have L27 : ∀ (k27 : Nat) (k : Nat) (o1 : Option Nat) (fu1 : Nat → Nat) (fv1 : Nat → Nat) (fk1 : Nat) (hk : k ≤ 7) (ho1 : ∀ z, o1 = some z → z < 211) (hf1 : fk1 ≤ fk + k) (e1 : fed sw hb b (at0 wh sw p, fu, fv, fk) k = (o1, fu1, fv1, fk1)) (hk27 : 7 - k = k27), V κ 0 0 [(hx, .inr (6, [.ref hr, .ref h3, .ref h4, .ref ht, .ref ha, .ref hF, .ref hR, .ref hS])), (ht, .inr (5, [.ref tc, .ref tw, .ref tf, .ref tb, .ref tl, .ref ts, .ref tq])), (tc, .inl (cI, 1688, .inl (fun i => oN (ch i)))), (tw, .inl (cZ, 211, .inl (fun i => bI (wh i)))), (tf, .inl (cI, 211, .inl (fun i => nI (hf i)))), (tb, .inl (cI, 211, .inl (fun i => nI (hb i)))), (tl, .inl (cI, 211, .inl (fun i => nI (ln i)))), (ts, .inl (cI, 211, .inl (fun i => oN (sw i)))), (tq, .inl (cI, 211, .inl (fun i => nI (od i)))), (hF, .inr (1, [.ref fa, .ref fb, .int (nI fk1)])), (fa, .inl (cI, 420, .inl (fun i => nI (fu1 i)))), (fb, .inl (cI, 420, .inl (fun i => nI (fv1 i))))] 27 [(0, .ref hx), (1, .int (nI p)), (2, .int (nI b)), (3, .int (oN o1)), (4, .int (nI k))] [] := by
      intro k27
      induction k27 using Nat.strongRecOn with
      | ind k27 ih27 =>
        intro k o1 fu1 fv1 fk1 hk ho1 hf1 e1 hk27
        refine V_iload x 4 dX6_findEnding_27 rfl ?_
        refine V_bipush (v := nI 7) x dX6_findEnding_29 (by decide +kernel) ?_
        refine V_icmp_geN x 70 dX6_findEnding_31 rfl (fun t31 => ?_) (fun f31 => ?_)
        · skip
          first
          | (have e9 := (Nat.le_antisymm hk t31).trans n7_eq.symm; subst e9; rw [e1] at hret)
          | (subst t36; rw [fed_none e1 (Nat.le_trans hk (Nat.le_of_eq n7_eq.symm))] at hret)
          exact hret _ _ dX6_findEnding_70
        · skip
          refine V_iload_n x 3 dX6_findEnding_34 rfl rfl ?_
          refine V_iconst (v := (-1)) x dX6_findEnding_35 (by decide +kernel) ?_
          refine V_icmp_eqO x 70 dX6_findEnding_36 rfl (fun z hz => lt31 (ho1 z hz)) (fun t36 => ?_) (fun z36 f36 => ?_)
          · skip
            simp only [t36, oN_none]
            first
            | (have e9 := (Nat.le_antisymm hk t31).trans n7_eq.symm; subst e9; rw [e1] at hret)
            | (subst t36; rw [fed_none e1 (Nat.le_trans hk (Nat.le_of_eq n7_eq.symm))] at hret)
            exact hret _ _ dX6_findEnding_70
          · skip
            simp only [f36, oN_some]
            refine V_aload_n x 0 dX6_findEnding_39 rfl rfl ?_
            refine V_get x 0 6 5 hinX6 rfl rfl (by decide) flX6_41 rfl dX6_findEnding_40 ?_
            refine V_aload_n x 0 dX6_findEnding_43 rfl rfl ?_
            refine V_get x 0 6 3 hinX6 rfl rfl (by decide) flX6_27 rfl dX6_findEnding_44 ?_
            refine V_iload_n x 3 dX6_findEnding_47 rfl rfl ?_
            refine V_callVi x (c_numberOf l D cI cZ cC cJ ht tc tw tf tb tl ts tq ch wh hf hb ln sw od z36 (ho1 _ f36)) 1 (gdV mlX6_107 imX5_numberOf seX5_numberOf inX5 coX5_numberOf) rfl hdX5_numberOf ⟨Nat.le_of_ble_eq_true rfl, Nat.le_of_ble_eq_true rfl⟩ ⟨rfl, rfl⟩ 1 rfl rfl rfl [1, 2, 3, 4, 5, 6, 7, 8] [(hx, .inr (6, [.ref hr, .ref h3, .ref h4, .ref ht, .ref ha, .ref hF, .ref hR, .ref hS])), (ht, .inr (5, [.ref tc, .ref tw, .ref tf, .ref tb, .ref tl, .ref ts, .ref tq])), (tc, .inl (cI, 1688, .inl (fun i => oN (ch i)))), (tw, .inl (cZ, 211, .inl (fun i => bI (wh i)))), (tf, .inl (cI, 211, .inl (fun i => nI (hf i)))), (tb, .inl (cI, 211, .inl (fun i => nI (hb i)))), (tl, .inl (cI, 211, .inl (fun i => nI (ln i)))), (ts, .inl (cI, 211, .inl (fun i => oN (sw i)))), (tq, .inl (cI, 211, .inl (fun i => nI (od i)))), (hF, .inr (1, [.ref fa, .ref fb, .int (nI fk1)])), (fa, .inl (cI, 420, .inl (fun i => nI (fu1 i)))), (fb, .inl (cI, 420, .inl (fun i => nI (fv1 i))))] rfl rfl [ht, tc, tw, tf, tb, tl, ts, tq] rfl rfl [none, some 0, some 1, some 2, some 3, some 4, some 5, some 6, some 7] rfl rfl (rest := [.ref hF]) rfl (Nat.le_of_ble_eq_true rfl) dX6_findEnding_48 ⟨Nat.zero_le _, Nat.zero_le _⟩ ?_
            refine V_iload_n x 2 dX6_findEnding_51 rfl rfl ?_
            refine V_callVv x (c_Finds_put l D cI cZ cC cJ hF fa fb fu1 fv1 fk1 (hb z36) b (by first | omega | assumption)) 2 (gdV mlX6_142 imX1_put seX1_put inX1 coX1_put) rfl hdX1_put ⟨Nat.le_of_ble_eq_true rfl, Nat.le_of_ble_eq_true rfl⟩ ⟨rfl, rfl⟩ 9 rfl rfl rfl [9, 10, 11] [(hx, .inr (6, [.ref hr, .ref h3, .ref h4, .ref ht, .ref ha, .ref hF, .ref hR, .ref hS])), (ht, .inr (5, [.ref tc, .ref tw, .ref tf, .ref tb, .ref tl, .ref ts, .ref tq])), (tc, .inl (cI, 1688, .inl (fun i => oN (ch i)))), (tw, .inl (cZ, 211, .inl (fun i => bI (wh i)))), (tf, .inl (cI, 211, .inl (fun i => nI (hf i)))), (tb, .inl (cI, 211, .inl (fun i => nI (hb i)))), (tl, .inl (cI, 211, .inl (fun i => nI (ln i)))), (ts, .inl (cI, 211, .inl (fun i => oN (sw i)))), (tq, .inl (cI, 211, .inl (fun i => nI (od i)))), (hF, .inr (1, [.ref fa, .ref fb, .int (nI (fk1 + 1))])), (fa, .inl (cI, 420, .inl (fun i => nI ((va_up fu1 fk1 (hb z36)) i)))), (fb, .inl (cI, 420, .inl (fun i => nI ((va_up fv1 fk1 b) i))))] rfl rfl [hF, fa, fb] rfl rfl [none, none, none, none, none, none, none, none, none, some 0, some 1, some 2] rfl rfl (rest := []) rfl (Nat.le_of_ble_eq_true rfl) dX6_findEnding_52 ⟨Nat.zero_le _, Nat.zero_le _⟩ ?_
            refine V_aload_n x 0 dX6_findEnding_55 rfl rfl ?_
            refine V_get x 0 6 3 hinX6 rfl rfl (by decide) flX6_27 rfl dX6_findEnding_56 ?_
            refine V_iload_n x 3 dX6_findEnding_59 rfl rfl ?_
            refine V_callVi x (c_shorter l D cI cZ cC cJ ht tc tw tf tb tl ts tq ch wh hf hb ln sw od z36 (ho1 _ f36)) 1 (gdV mlX6_198 imX5_shorterWord seX5_shorterWord inX5 coX5_shorterWord) rfl hdX5_shorterWord ⟨Nat.le_of_ble_eq_true rfl, Nat.le_of_ble_eq_true rfl⟩ ⟨rfl, rfl⟩ 1 rfl rfl rfl [1, 2, 3, 4, 5, 6, 7, 8] [(hx, .inr (6, [.ref hr, .ref h3, .ref h4, .ref ht, .ref ha, .ref hF, .ref hR, .ref hS])), (ht, .inr (5, [.ref tc, .ref tw, .ref tf, .ref tb, .ref tl, .ref ts, .ref tq])), (tc, .inl (cI, 1688, .inl (fun i => oN (ch i)))), (tw, .inl (cZ, 211, .inl (fun i => bI (wh i)))), (tf, .inl (cI, 211, .inl (fun i => nI (hf i)))), (tb, .inl (cI, 211, .inl (fun i => nI (hb i)))), (tl, .inl (cI, 211, .inl (fun i => nI (ln i)))), (ts, .inl (cI, 211, .inl (fun i => oN (sw i)))), (tq, .inl (cI, 211, .inl (fun i => nI (od i)))), (hF, .inr (1, [.ref fa, .ref fb, .int (nI (fk1 + 1))])), (fa, .inl (cI, 420, .inl (fun i => nI ((va_up fu1 fk1 (hb z36)) i)))), (fb, .inl (cI, 420, .inl (fun i => nI ((va_up fv1 fk1 b) i))))] rfl rfl [ht, tc, tw, tf, tb, tl, ts, tq] rfl rfl [none, some 0, some 1, some 2, some 3, some 4, some 5, some 6, some 7] rfl rfl (rest := []) rfl (Nat.le_of_ble_eq_true rfl) dX6_findEnding_60 ⟨Nat.zero_le _, Nat.zero_le _⟩ ?_
            refine V_istore_n x 3 [(3, .int (oN (sw z36))), (0, .ref hx), (1, .int (nI p)), (2, .int (nI b)), (4, .int (nI k))] dX6_findEnding_63 rfl (by decide) rfl ?_
            refine V_iinc x 4 4 [(4, .int (nI (k + 1))), (3, .int (oN (sw z36))), (0, .ref hx), (1, .int (nI p)), (2, .int (nI b))] dX6_findEnding_64 rfl (iinc_1 _) (by decide) rfl ?_
            refine V_goto x 27 dX6_findEnding_67 rfl ?_
            refine V.sub [2, 3, 4, 1, 0] (lv' := [(0, .ref hx), (1, .int (nI p)), (2, .int (nI b)), (3, .int (oN ((sw z36)))), (4, .int (nI ((k + 1))))]) rfl ?_
            exact ih27 (7 - (k + 1)) (by omega) (k + 1) (sw z36) (va_up fu1 fk1 (hb z36)) (va_up fv1 fk1 b) (fk1 + 1) (by omega) (fun z hz => hsw _ _ hz) (by omega) (by rw [fed, e1, f36]; rfl) rfl
    refine V.sub [2, 3, 4, 1, 0] (lv' := [(0, .ref hx), (1, .int (nI p)), (2, .int (nI b)), (3, .int (oN ((at0 wh sw p)))), (4, .int (nI 0))]) rfl ?_
    exact L27 _ 0 (at0 wh sw p) fu fv fk (by omega) (fun z hz => at0_lt hsw hp hz) (by omega) rfl rfl
  refine V_if_eqB x 15 dX6_findEnding_8 rfl (fun t8 => ?_) (fun f8 => ?_)
  · skip
    refine V_aload_n x 0 dX6_findEnding_15 rfl rfl ?_
    refine V_get x 0 6 3 hinX6 rfl rfl (by decide) flX6_27 rfl dX6_findEnding_16 ?_
    refine V_iload_n x 1 dX6_findEnding_19 rfl rfl ?_
    refine V_callVi x (c_shorter l D cI cZ cC cJ ht tc tw tf tb tl ts tq ch wh hf hb ln sw od p (by first | omega | assumption)) 1 (gdV mlX6_198 imX5_shorterWord seX5_shorterWord inX5 coX5_shorterWord) rfl hdX5_shorterWord ⟨Nat.le_of_ble_eq_true rfl, Nat.le_of_ble_eq_true rfl⟩ ⟨rfl, rfl⟩ 1 rfl rfl rfl [1, 2, 3, 4, 5, 6, 7, 8] [(hx, .inr (6, [.ref hr, .ref h3, .ref h4, .ref ht, .ref ha, .ref hF, .ref hR, .ref hS])), (ht, .inr (5, [.ref tc, .ref tw, .ref tf, .ref tb, .ref tl, .ref ts, .ref tq])), (tc, .inl (cI, 1688, .inl (fun i => oN (ch i)))), (tw, .inl (cZ, 211, .inl (fun i => bI (wh i)))), (tf, .inl (cI, 211, .inl (fun i => nI (hf i)))), (tb, .inl (cI, 211, .inl (fun i => nI (hb i)))), (tl, .inl (cI, 211, .inl (fun i => nI (ln i)))), (ts, .inl (cI, 211, .inl (fun i => oN (sw i)))), (tq, .inl (cI, 211, .inl (fun i => nI (od i)))), (hF, .inr (1, [.ref fa, .ref fb, .int (nI fk)])), (fa, .inl (cI, 420, .inl (fun i => nI (fu i)))), (fb, .inl (cI, 420, .inl (fun i => nI (fv i))))] rfl rfl [ht, tc, tw, tf, tb, tl, ts, tq] rfl rfl [none, some 0, some 1, some 2, some 3, some 4, some 5, some 6, some 7] rfl rfl (rest := []) rfl (Nat.le_of_ble_eq_true rfl) dX6_findEnding_20 ⟨Nat.zero_le _, Nat.zero_le _⟩ ?_
    refine V.ci (x' := oN (at0 wh sw p)) (by unfold at0; first | (rw [if_pos f8]; rfl) | (rw [if_neg (by rw [t8]; decide)])) ?_
    exact J23
  · skip
    refine V_iload_n x 1 dX6_findEnding_11 rfl rfl ?_
    refine V_goto x 23 dX6_findEnding_12 rfl ?_
    refine V.ci (x' := oN (at0 wh sw p)) (by unfold at0; first | (rw [if_pos f8]; rfl) | (rw [if_neg (by rw [t8]; decide)])) ?_
    exact J23
set_option maxHeartbeats 4000000 in
set_option maxRecDepth 100000 in
theorem x_scan (l : Launch) (D : va_G) (cI cZ cC cJ : ClassId) (hx hr h3 h4 ht ha hF hR hS ar tc tw tf tb tl ts tq fa fb : Nat) (tx : Nat → Nat) (n : Nat) (ch : Nat → Option Nat) (wh : Nat → Bool) (hf : Nat → Nat) (hb : Nat → Nat) (ln : Nat → Nat) (sw : Nat → Option Nat) (od : Nat → Nat) (fu : Nat → Nat) (fv : Nat → Nat) (fk : Nat) (hrg : rg ch) (hn60 : n ≤ 60) (htx : ∀ i, tx i < 65536) (hsw : rg sw) (hl : ∀ i, ln i < 211) : CI l yX6_scan wsX6_scan { frames := 3, cells := 0, slots := 0, locals := 69 } D vwCl (tys4 cI cZ cC cJ) [.ref hx] [(hx, .inr (6, [.ref hr, .ref h3, .ref h4, .ref ht, .ref ha, .ref hF, .ref hR, .ref hS])), (hr, .inr (2, [.ref ar, .int (nI n)])), (ar, .inl (cC, 60, .inl (fun i => nI (tx i)))), (ht, .inr (5, [.ref tc, .ref tw, .ref tf, .ref tb, .ref tl, .ref ts, .ref tq])), (tc, .inl (cI, 1688, .inl (fun i => oN (ch i)))), (tw, .inl (cZ, 211, .inl (fun i => bI (wh i)))), (tf, .inl (cI, 211, .inl (fun i => nI (hf i)))), (tb, .inl (cI, 211, .inl (fun i => nI (hb i)))), (tl, .inl (cI, 211, .inl (fun i => nI (ln i)))), (ts, .inl (cI, 211, .inl (fun i => oN (sw i)))), (tq, .inl (cI, 211, .inl (fun i => nI (od i)))), (hF, .inr (1, [.ref fa, .ref fb, .int (nI fk)])), (fa, .inl (cI, 420, .inl (fun i => nI (fu i)))), (fb, .inl (cI, 420, .inl (fun i => nI (fv i))))] ((nI ((scs ch wh hb ln sw tx fu fv n).2.2.2))) [(hx, .inr (6, [.ref hr, .ref h3, .ref h4, .ref ht, .ref ha, .ref hF, .ref hR, .ref hS])), (hr, .inr (2, [.ref ar, .int (nI 0)])), (ar, .inl (cC, 60, .inl (fun i => nI (tx i)))), (ht, .inr (5, [.ref tc, .ref tw, .ref tf, .ref tb, .ref tl, .ref ts, .ref tq])), (tc, .inl (cI, 1688, .inl (fun i => oN (ch i)))), (tw, .inl (cZ, 211, .inl (fun i => bI (wh i)))), (tf, .inl (cI, 211, .inl (fun i => nI (hf i)))), (tb, .inl (cI, 211, .inl (fun i => nI (hb i)))), (tl, .inl (cI, 211, .inl (fun i => nI (ln i)))), (ts, .inl (cI, 211, .inl (fun i => oN (sw i)))), (tq, .inl (cI, 211, .inl (fun i => nI (od i)))), (hF, .inr (1, [.ref fa, .ref fb, .int (nI ((scs ch wh hb ln sw tx fu fv n).2.2.2))])), (fa, .inl (cI, 420, .inl (fun i => nI (((scs ch wh hb ln sw tx fu fv n).2.1) i)))), (fb, .inl (cI, 420, .inl (fun i => nI (((scs ch wh hb ln sw tx fu fv n).2.2.1) i))))] := by
  refine CI.ofV rfl (by decide +kernel) rfl (Nat.le_of_ble_eq_true rfl) ?_
  intro κ x hret
  refine V_aload_n x 0 dX6_scan_0 rfl rfl ?_
  refine V_get x 0 6 5 hinX6 rfl rfl (by decide) flX6_41 rfl dX6_scan_1 ?_
  refine V_callVv x (c_Finds_empty l D cI cZ cC cJ hF fa fb fu fv fk ) 0 (gdV mlX6_136 imX1_empty seX1_empty inX1 coX1_empty) rfl hdX1_empty ⟨Nat.le_of_ble_eq_true rfl, Nat.le_of_ble_eq_true rfl⟩ ⟨rfl, rfl⟩ 11 rfl rfl rfl [11, 12, 13] [(hx, .inr (6, [.ref hr, .ref h3, .ref h4, .ref ht, .ref ha, .ref hF, .ref hR, .ref hS])), (hr, .inr (2, [.ref ar, .int (nI n)])), (ar, .inl (cC, 60, .inl (fun i => nI (tx i)))), (ht, .inr (5, [.ref tc, .ref tw, .ref tf, .ref tb, .ref tl, .ref ts, .ref tq])), (tc, .inl (cI, 1688, .inl (fun i => oN (ch i)))), (tw, .inl (cZ, 211, .inl (fun i => bI (wh i)))), (tf, .inl (cI, 211, .inl (fun i => nI (hf i)))), (tb, .inl (cI, 211, .inl (fun i => nI (hb i)))), (tl, .inl (cI, 211, .inl (fun i => nI (ln i)))), (ts, .inl (cI, 211, .inl (fun i => oN (sw i)))), (tq, .inl (cI, 211, .inl (fun i => nI (od i)))), (hF, .inr (1, [.ref fa, .ref fb, .int (nI 0)])), (fa, .inl (cI, 420, .inl (fun i => nI (fu i)))), (fb, .inl (cI, 420, .inl (fun i => nI (fv i))))] rfl rfl [hF, fa, fb] rfl rfl [none, none, none, none, none, none, none, none, none, none, none, some 0, some 1, some 2] rfl rfl (rest := []) rfl (Nat.le_of_ble_eq_true rfl) dX6_scan_4 ⟨Nat.zero_le _, Nat.zero_le _⟩ ?_
  refine V_iconst (v := nI 0) x dX6_scan_7 (by decide +kernel) ?_
  refine V_istore_n x 1 [(1, .int (nI 0)), (0, .ref hx)] dX6_scan_8 rfl (by decide) rfl ?_
  refine V_iconst (v := nI 0) x dX6_scan_9 (by decide +kernel) ?_
  refine V_istore_n x 2 [(2, .int (nI 0)), (1, .int (nI 0)), (0, .ref hx)] dX6_scan_10 rfl (by decide) rfl ?_
  have L11 : ∀ (k11 : Nat) (k : Nat) (p1 : Nat) (fu1 : Nat → Nat) (fv1 : Nat → Nat) (fk1 : Nat) (hk : k ≤ n) (hp1 : p1 < 211) (hf1 : fk1 ≤ 7 * k) (e1 : scs ch wh hb ln sw tx fu fv k = (p1, fu1, fv1, fk1)) (hk11 : n - k = k11), V κ 0 0 [(hx, .inr (6, [.ref hr, .ref h3, .ref h4, .ref ht, .ref ha, .ref hF, .ref hR, .ref hS])), (hr, .inr (2, [.ref ar, .int (nI n)])), (ar, .inl (cC, 60, .inl (fun i => nI (tx i)))), (ht, .inr (5, [.ref tc, .ref tw, .ref tf, .ref tb, .ref tl, .ref ts, .ref tq])), (tc, .inl (cI, 1688, .inl (fun i => oN (ch i)))), (tw, .inl (cZ, 211, .inl (fun i => bI (wh i)))), (tf, .inl (cI, 211, .inl (fun i => nI (hf i)))), (tb, .inl (cI, 211, .inl (fun i => nI (hb i)))), (tl, .inl (cI, 211, .inl (fun i => nI (ln i)))), (ts, .inl (cI, 211, .inl (fun i => oN (sw i)))), (tq, .inl (cI, 211, .inl (fun i => nI (od i)))), (hF, .inr (1, [.ref fa, .ref fb, .int (nI fk1)])), (fa, .inl (cI, 420, .inl (fun i => nI (fu1 i)))), (fb, .inl (cI, 420, .inl (fun i => nI (fv1 i))))] 11 [(0, .ref hx), (1, .int (nI p1)), (2, .int (nI k))] [] := by
    intro k11
    induction k11 using Nat.strongRecOn with
    | ind k11 ih11 =>
      intro k p1 fu1 fv1 fk1 hk hp1 hf1 e1 hk11
      refine V_iload_n x 2 dX6_scan_11 rfl rfl ?_
      refine V_aload_n x 0 dX6_scan_12 rfl rfl ?_
      refine V_get x 0 6 0 hinX6 rfl rfl (by decide) flX6_14 rfl dX6_scan_13 ?_
      refine V_callVi x (c_Line_size l D cI cZ cC cJ hr ar 60 tx n ) 0 (gdV mlX6_104 imX2_size seX2_size inX2 coX2_size) rfl hdX2_size ⟨Nat.le_of_ble_eq_true rfl, Nat.le_of_ble_eq_true rfl⟩ ⟨rfl, rfl⟩ 1 rfl rfl rfl [1, 2] [(hx, .inr (6, [.ref hr, .ref h3, .ref h4, .ref ht, .ref ha, .ref hF, .ref hR, .ref hS])), (hr, .inr (2, [.ref ar, .int (nI n)])), (ar, .inl (cC, 60, .inl (fun i => nI (tx i)))), (ht, .inr (5, [.ref tc, .ref tw, .ref tf, .ref tb, .ref tl, .ref ts, .ref tq])), (tc, .inl (cI, 1688, .inl (fun i => oN (ch i)))), (tw, .inl (cZ, 211, .inl (fun i => bI (wh i)))), (tf, .inl (cI, 211, .inl (fun i => nI (hf i)))), (tb, .inl (cI, 211, .inl (fun i => nI (hb i)))), (tl, .inl (cI, 211, .inl (fun i => nI (ln i)))), (ts, .inl (cI, 211, .inl (fun i => oN (sw i)))), (tq, .inl (cI, 211, .inl (fun i => nI (od i)))), (hF, .inr (1, [.ref fa, .ref fb, .int (nI fk1)])), (fa, .inl (cI, 420, .inl (fun i => nI (fu1 i)))), (fb, .inl (cI, 420, .inl (fun i => nI (fv1 i))))] rfl rfl [hr, ar] rfl rfl [none, some 0, some 1] rfl rfl (rest := [.int (nI k)]) rfl (Nat.le_of_ble_eq_true rfl) dX6_scan_16 ⟨Nat.zero_le _, Nat.zero_le _⟩ ?_
      refine V_icmp_geN x 53 dX6_scan_19 rfl (fun t19 => ?_) (fun f19 => ?_)
      · skip
        refine V_aload_n x 0 dX6_scan_53 rfl rfl ?_
        refine V_get x 0 6 0 hinX6 rfl rfl (by decide) flX6_14 rfl dX6_scan_54 ?_
        refine V_callVi x (c_Line_empty l D cI cZ cC cJ hr ar 60 tx n ) 0 (gdV mlX6_63 imX2_empty seX2_empty inX2 coX2_empty) rfl hdX2_empty ⟨Nat.le_of_ble_eq_true rfl, Nat.le_of_ble_eq_true rfl⟩ ⟨rfl, rfl⟩ 1 rfl rfl rfl [1, 2] [(hx, .inr (6, [.ref hr, .ref h3, .ref h4, .ref ht, .ref ha, .ref hF, .ref hR, .ref hS])), (hr, .inr (2, [.ref ar, .int (nI 0)])), (ar, .inl (cC, 60, .inl (fun i => nI (tx i)))), (ht, .inr (5, [.ref tc, .ref tw, .ref tf, .ref tb, .ref tl, .ref ts, .ref tq])), (tc, .inl (cI, 1688, .inl (fun i => oN (ch i)))), (tw, .inl (cZ, 211, .inl (fun i => bI (wh i)))), (tf, .inl (cI, 211, .inl (fun i => nI (hf i)))), (tb, .inl (cI, 211, .inl (fun i => nI (hb i)))), (tl, .inl (cI, 211, .inl (fun i => nI (ln i)))), (ts, .inl (cI, 211, .inl (fun i => oN (sw i)))), (tq, .inl (cI, 211, .inl (fun i => nI (od i)))), (hF, .inr (1, [.ref fa, .ref fb, .int (nI fk1)])), (fa, .inl (cI, 420, .inl (fun i => nI (fu1 i)))), (fb, .inl (cI, 420, .inl (fun i => nI (fv1 i))))] rfl rfl [hr, ar] rfl rfl [none, some 0, some 1] rfl rfl (rest := []) rfl (Nat.le_of_ble_eq_true rfl) dX6_scan_57 ⟨Nat.zero_le _, Nat.zero_le _⟩ ?_
        refine V_pop x dX6_scan_60 rfl ?_
        refine V_aload_n x 0 dX6_scan_61 rfl rfl ?_
        refine V_get x 0 6 5 hinX6 rfl rfl (by decide) flX6_41 rfl dX6_scan_62 ?_
        refine V_callVi x (c_Finds_size l D cI cZ cC cJ hF fa fb fu1 fv1 fk1 ) 0 (gdV mlX6_145 imX1_size seX1_size inX1 coX1_size) rfl hdX1_size ⟨Nat.le_of_ble_eq_true rfl, Nat.le_of_ble_eq_true rfl⟩ ⟨rfl, rfl⟩ 11 rfl rfl rfl [11, 12, 13] [(hx, .inr (6, [.ref hr, .ref h3, .ref h4, .ref ht, .ref ha, .ref hF, .ref hR, .ref hS])), (hr, .inr (2, [.ref ar, .int (nI 0)])), (ar, .inl (cC, 60, .inl (fun i => nI (tx i)))), (ht, .inr (5, [.ref tc, .ref tw, .ref tf, .ref tb, .ref tl, .ref ts, .ref tq])), (tc, .inl (cI, 1688, .inl (fun i => oN (ch i)))), (tw, .inl (cZ, 211, .inl (fun i => bI (wh i)))), (tf, .inl (cI, 211, .inl (fun i => nI (hf i)))), (tb, .inl (cI, 211, .inl (fun i => nI (hb i)))), (tl, .inl (cI, 211, .inl (fun i => nI (ln i)))), (ts, .inl (cI, 211, .inl (fun i => oN (sw i)))), (tq, .inl (cI, 211, .inl (fun i => nI (od i)))), (hF, .inr (1, [.ref fa, .ref fb, .int (nI fk1)])), (fa, .inl (cI, 420, .inl (fun i => nI (fu1 i)))), (fb, .inl (cI, 420, .inl (fun i => nI (fv1 i))))] rfl rfl [hF, fa, fb] rfl rfl [none, none, none, none, none, none, none, none, none, none, none, some 0, some 1, some 2] rfl rfl (rest := []) rfl (Nat.le_of_ble_eq_true rfl) dX6_scan_65 ⟨Nat.zero_le _, Nat.zero_le _⟩ ?_
        obtain rfl : k = n := by omega
        rw [e1] at hret
        exact hret _ _ dX6_scan_68
      · skip
        refine V_aload_n x 0 dX6_scan_22 rfl rfl ?_
        refine V_get x 0 6 3 hinX6 rfl rfl (by decide) flX6_27 rfl dX6_scan_23 ?_
        refine V_iload_n x 1 dX6_scan_26 rfl rfl ?_
        refine V_aload_n x 0 dX6_scan_27 rfl rfl ?_
        refine V_get x 0 6 0 hinX6 rfl rfl (by decide) flX6_14 rfl dX6_scan_28 ?_
        refine V_iload_n x 2 dX6_scan_31 rfl rfl ?_
        refine V_callVi x (c_Line_at l D cI cZ cC cJ hr ar 60 tx n k (by first | omega | assumption) (by first | omega | assumption) (by first | omega | assumption) (by first | omega | assumption)) 1 (gdV mlX6_114 imX2_at seX2_at inX2 coX2_at) rfl hdX2_at ⟨Nat.le_of_ble_eq_true rfl, Nat.le_of_ble_eq_true rfl⟩ ⟨rfl, rfl⟩ 1 rfl rfl rfl [1, 2] [(hx, .inr (6, [.ref hr, .ref h3, .ref h4, .ref ht, .ref ha, .ref hF, .ref hR, .ref hS])), (hr, .inr (2, [.ref ar, .int (nI n)])), (ar, .inl (cC, 60, .inl (fun i => nI (tx i)))), (ht, .inr (5, [.ref tc, .ref tw, .ref tf, .ref tb, .ref tl, .ref ts, .ref tq])), (tc, .inl (cI, 1688, .inl (fun i => oN (ch i)))), (tw, .inl (cZ, 211, .inl (fun i => bI (wh i)))), (tf, .inl (cI, 211, .inl (fun i => nI (hf i)))), (tb, .inl (cI, 211, .inl (fun i => nI (hb i)))), (tl, .inl (cI, 211, .inl (fun i => nI (ln i)))), (ts, .inl (cI, 211, .inl (fun i => oN (sw i)))), (tq, .inl (cI, 211, .inl (fun i => nI (od i)))), (hF, .inr (1, [.ref fa, .ref fb, .int (nI fk1)])), (fa, .inl (cI, 420, .inl (fun i => nI (fu1 i)))), (fb, .inl (cI, 420, .inl (fun i => nI (fv1 i))))] rfl rfl [hr, ar] rfl rfl [none, some 0, some 1] rfl rfl (rest := [.int (nI p1), .ref ht]) rfl (Nat.le_of_ble_eq_true rfl) dX6_scan_32 ⟨Nat.zero_le _, Nat.zero_le _⟩ ?_
        refine V_callVi x (c_onward l D cI cZ cC cJ ht tc tw tf tb tl ts tq ch wh hf hb ln sw od p1 (tx k) (by first | omega | assumption) (by first | omega | assumption) (by first | omega | assumption) (htx _)) 2 (gdV mlX6_146 imX5_onward seX5_onward inX5 coX5_onward) rfl hdX5_onward ⟨Nat.le_of_ble_eq_true rfl, Nat.le_of_ble_eq_true rfl⟩ ⟨rfl, rfl⟩ 3 rfl rfl rfl [3, 4, 5, 6, 7, 8, 9, 10] [(hx, .inr (6, [.ref hr, .ref h3, .ref h4, .ref ht, .ref ha, .ref hF, .ref hR, .ref hS])), (hr, .inr (2, [.ref ar, .int (nI n)])), (ar, .inl (cC, 60, .inl (fun i => nI (tx i)))), (ht, .inr (5, [.ref tc, .ref tw, .ref tf, .ref tb, .ref tl, .ref ts, .ref tq])), (tc, .inl (cI, 1688, .inl (fun i => oN (ch i)))), (tw, .inl (cZ, 211, .inl (fun i => bI (wh i)))), (tf, .inl (cI, 211, .inl (fun i => nI (hf i)))), (tb, .inl (cI, 211, .inl (fun i => nI (hb i)))), (tl, .inl (cI, 211, .inl (fun i => nI (ln i)))), (ts, .inl (cI, 211, .inl (fun i => oN (sw i)))), (tq, .inl (cI, 211, .inl (fun i => nI (od i)))), (hF, .inr (1, [.ref fa, .ref fb, .int (nI fk1)])), (fa, .inl (cI, 420, .inl (fun i => nI (fu1 i)))), (fb, .inl (cI, 420, .inl (fun i => nI (fv1 i))))] rfl rfl [ht, tc, tw, tf, tb, tl, ts, tq] rfl rfl [none, none, none, some 0, some 1, some 2, some 3, some 4, some 5, some 6, some 7] rfl rfl (rest := []) rfl (Nat.le_of_ble_eq_true rfl) dX6_scan_35 ⟨Nat.zero_le _, Nat.zero_le _⟩ ?_
        refine V_istore_n x 1 [(1, .int (nI (onw ch ln p1 (tx k)))), (0, .ref hx), (2, .int (nI k))] dX6_scan_38 rfl (by decide) rfl ?_
        refine V_aload_n x 0 dX6_scan_39 rfl rfl ?_
        refine V_iload_n x 1 dX6_scan_40 rfl rfl ?_
        refine V_iload_n x 2 dX6_scan_41 rfl rfl ?_
        refine V_iconst (v := nI 1) x dX6_scan_42 (by decide +kernel) ?_
        refine V_iadd x (nI (k + 1)) dX6_scan_43 (nI_add _ _) ?_
        refine V_callVv x (x_findEnding l D cI cZ cC cJ hx hr h3 h4 ht ha hF hR hS tc tw tf tb tl ts tq fa fb ch wh hf hb ln sw od fu1 fv1 fk1 (onw ch ln p1 (tx k)) (k + 1) (by first | omega | assumption) (onw_lt hrg) (by first | omega | assumption)) 2 (gdV mlX6_149 imX6_findEnding seX6_findEnding inX6 coX6_findEnding) rfl hdX6_findEnding ⟨Nat.le_of_ble_eq_true rfl, Nat.le_of_ble_eq_true rfl⟩ ⟨rfl, rfl⟩ 0 rfl rfl rfl [0, 3, 4, 5, 6, 7, 8, 9, 10, 11, 12, 13] [(hx, .inr (6, [.ref hr, .ref h3, .ref h4, .ref ht, .ref ha, .ref hF, .ref hR, .ref hS])), (hr, .inr (2, [.ref ar, .int (nI n)])), (ar, .inl (cC, 60, .inl (fun i => nI (tx i)))), (ht, .inr (5, [.ref tc, .ref tw, .ref tf, .ref tb, .ref tl, .ref ts, .ref tq])), (tc, .inl (cI, 1688, .inl (fun i => oN (ch i)))), (tw, .inl (cZ, 211, .inl (fun i => bI (wh i)))), (tf, .inl (cI, 211, .inl (fun i => nI (hf i)))), (tb, .inl (cI, 211, .inl (fun i => nI (hb i)))), (tl, .inl (cI, 211, .inl (fun i => nI (ln i)))), (ts, .inl (cI, 211, .inl (fun i => oN (sw i)))), (tq, .inl (cI, 211, .inl (fun i => nI (od i)))), (hF, .inr (1, [.ref fa, .ref fb, .int (nI ((fed sw hb (k + 1) (at0 wh sw (onw ch ln p1 (tx k)), fu1, fv1, fk1) n7).2.2.2))])), (fa, .inl (cI, 420, .inl (fun i => nI (((fed sw hb (k + 1) (at0 wh sw (onw ch ln p1 (tx k)), fu1, fv1, fk1) n7).2.1) i)))), (fb, .inl (cI, 420, .inl (fun i => nI (((fed sw hb (k + 1) (at0 wh sw (onw ch ln p1 (tx k)), fu1, fv1, fk1) n7).2.2.1) i))))] rfl rfl [hx, ht, tc, tw, tf, tb, tl, ts, tq, hF, fa, fb] rfl rfl [some 0, none, none, some 1, some 2, some 3, some 4, some 5, some 6, some 7, some 8, some 9, some 10, some 11] rfl rfl (rest := []) rfl (Nat.le_of_ble_eq_true rfl) dX6_scan_44 ⟨Nat.zero_le _, Nat.zero_le _⟩ ?_
        refine V_iinc x 2 2 [(2, .int (nI (k + 1))), (1, .int (nI (onw ch ln p1 (tx k)))), (0, .ref hx)] dX6_scan_47 rfl (iinc_1 _) (by decide) rfl ?_
        refine V_goto x 11 dX6_scan_50 rfl ?_
        refine V.sub [2, 1, 0] (lv' := [(0, .ref hx), (1, .int (nI ((onw ch ln p1 (tx k))))), (2, .int (nI ((k + 1))))]) rfl ?_
        exact ih11 (n - (k + 1)) (by omega) (k + 1) (onw ch ln p1 (tx k)) ((fed sw hb (k + 1) (at0 wh sw (onw ch ln p1 (tx k)), fu1, fv1, fk1) n7).2.1) ((fed sw hb (k + 1) (at0 wh sw (onw ch ln p1 (tx k)), fu1, fv1, fk1) n7).2.2.1) ((fed sw hb (k + 1) (at0 wh sw (onw ch ln p1 (tx k)), fu1, fv1, fk1) n7).2.2.2) (by omega) (onw_lt hrg) (by have h1 := fed_k (sw := sw) (hb := hb) (b := k + 1) (s := (at0 wh sw (onw ch ln p1 (tx k)), fu1, fv1, fk1)) n7; have h2 : (fed sw hb (k + 1) (at0 wh sw (onw ch ln p1 (tx k)), fu1, fv1, fk1) n7).2.2.2 ≤ fk1 + n7 := h1; have h3 := n7_eq; omega) (by rw [scs, e1]; rfl) rfl
  refine V.sub [2, 1, 0] (lv' := [(0, .ref hx), (1, .int (nI 0)), (2, .int (nI 0))]) rfl ?_
  exact L11 _ 0 0 fu fv 0 (by omega) (by omega) (by omega) rfl rfl
