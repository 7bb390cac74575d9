/-! contracts, laid by prog/lay8.py -/
set_option maxHeartbeats 4000000 in
set_option maxRecDepth 100000 in
theorem x_word (l : Launch) (D : va_G) (cI cZ cC cJ : ClassId) (hx hr h3 h4 ht ha hF hR hS tc tw tf tb tl ts tq a3 : Nat) (ch : Nat → Option Nat) (wh : Nat → Bool) (hf : Nat → Nat) (hb : Nat → Nat) (ln : Nat → Nat) (sw : Nat → Option Nat) (od : Nat → Nat) (px : Nat → Nat) (n3 : Nat) (j : Nat) (hrg : rg ch) (hj : j < hf 0) (h30 : hf 0 ≤ 30) (hbb : ∀ i, hb i < 1000) (hfb : ∀ i, hf i < 1000) : CI l yX6_word wsX6_word { frames := 3, cells := 0, slots := 0, locals := 71 } D vwCl (tys4 cI cZ cC cJ) [.ref hx, .int (nI j)] [(hx, .inr (6, [.ref hr, .ref h3, .ref h4, .ref ht, .ref ha, .ref hF, .ref hR, .ref hS])), (ht, .inr (5, [.ref tc, .ref tw, .ref tf, .ref tb, .ref tl, .ref ts, .ref tq])), (tc, .inl (cI, 1688, .inl (fun i => oN (ch i)))), (tw, .inl (cZ, 211, .inl (fun i => bI (wh i)))), (tf, .inl (cI, 211, .inl (fun i => nI (hf i)))), (tb, .inl (cI, 211, .inl (fun i => nI (hb i)))), (tl, .inl (cI, 211, .inl (fun i => nI (ln i)))), (ts, .inl (cI, 211, .inl (fun i => oN (sw i)))), (tq, .inl (cI, 211, .inl (fun i => nI (od i)))), (h3, .inr (2, [.ref a3, .int (nI n3)])), (a3, .inl (cC, 119, .inl (fun i => nI (px i))))] ((nI ((spl ch hf hb j px n7).2.2.2))) [(hx, .inr (6, [.ref hr, .ref h3, .ref h4, .ref ht, .ref ha, .ref hF, .ref hR, .ref hS])), (ht, .inr (5, [.ref tc, .ref tw, .ref tf, .ref tb, .ref tl, .ref ts, .ref tq])), (tc, .inl (cI, 1688, .inl (fun i => oN (ch i)))), (tw, .inl (cZ, 211, .inl (fun i => bI (wh i)))), (tf, .inl (cI, 211, .inl (fun i => nI (hf i)))), (tb, .inl (cI, 211, .inl (fun i => nI (hb i)))), (tl, .inl (cI, 211, .inl (fun i => nI (ln i)))), (ts, .inl (cI, 211, .inl (fun i => oN (sw i)))), (tq, .inl (cI, 211, .inl (fun i => nI (od i)))), (h3, .inr (2, [.ref a3, .int (nI ((spl ch hf hb j px n7).2.2.2))])), (a3, .inl (cC, 119, .inl (fun i => nI (((spl ch hf hb j px n7).2.2.1) i))))] := by
  refine CI.ofV rfl (by decide +kernel) rfl (Nat.le_of_ble_eq_true rfl) ?_
  intro κ x hret
  refine V_iload_n x 1 dX6_word_0 rfl rfl ?_
  refine V_if_ltN x 15 dX6_word_1 rfl (fun t1 => ?_) (fun f1 => ?_)
  · skip
    exact t1.elim
  · skip
    refine V_iload_n x 1 dX6_word_4 rfl rfl ?_
    refine V_aload_n x 0 dX6_word_5 rfl rfl ?_
    refine V_get x 0 6 3 hinX6 rfl rfl (by decide) flX6_27 rfl dX6_word_6 ?_
    refine V_callVi x (c_held l D cI cZ cC cJ ht tc tw tf tb tl ts tq ch wh hf hb ln sw od ) 0 (gdV mlX6_67 imX5_held seX5_held inX5 coX5_held) rfl hdX5_held ⟨Nat.le_of_ble_eq_true rfl, Nat.le_of_ble_eq_true rfl⟩ ⟨rfl, rfl⟩ 1 rfl rfl rfl [1, 2, 3, 4, 5, 6, 7, 8] [(hx, .inr (6, [.ref hr, .ref h3, .ref h4, .ref ht, .ref ha, .ref hF, .ref hR, .ref hS])), (ht, .inr (5, [.ref tc, .ref tw, .ref tf, .ref tb, .ref tl, .ref ts, .ref tq])), (tc, .inl (cI, 1688, .inl (fun i => oN (ch i)))), (tw, .inl (cZ, 211, .inl (fun i => bI (wh i)))), (tf, .inl (cI, 211, .inl (fun i => nI (hf i)))), (tb, .inl (cI, 211, .inl (fun i => nI (hb i)))), (tl, .inl (cI, 211, .inl (fun i => nI (ln i)))), (ts, .inl (cI, 211, .inl (fun i => oN (sw i)))), (tq, .inl (cI, 211, .inl (fun i => nI (od i)))), (h3, .inr (2, [.ref a3, .int (nI n3)])), (a3, .inl (cC, 119, .inl (fun i => nI (px i))))] rfl rfl [ht, tc, tw, tf, tb, tl, ts, tq] rfl rfl [none, some 0, some 1, some 2, some 3, some 4, some 5, some 6, some 7] rfl rfl (rest := [.int (nI j)]) rfl (Nat.le_of_ble_eq_true rfl) dX6_word_9 ⟨Nat.zero_le _, Nat.zero_le _⟩ ?_
    refine V_icmp_ltN x 25 dX6_word_12 rfl (fun t12 => ?_) (fun f12 => ?_)
    · skip
      refine V_aload_n x 0 dX6_word_25 rfl rfl ?_
      refine V_get x 0 6 3 hinX6 rfl rfl (by decide) flX6_27 rfl dX6_word_26 ?_
      refine V_iload_n x 1 dX6_word_29 rfl rfl ?_
      refine V_aload_n x 0 dX6_word_30 rfl rfl ?_
      refine V_get x 0 6 1 hinX6 rfl rfl (by decide) flX6_18 rfl dX6_word_31 ?_
      refine V_callVv x (c_spell l D cI cZ cC cJ ht tc tw tf tb tl ts tq h3 a3 ch wh hf hb ln sw od 119 px n3 j (by first | omega | assumption) (by first | omega | assumption) (by first | omega | assumption) (by first | omega | assumption) (by first | omega | assumption) (by first | omega | assumption)) 2 (gdV mlX6_100 imX5_spell seX5_spell inX5 coX5_spell) rfl hdX5_spell ⟨Nat.le_of_ble_eq_true rfl, Nat.le_of_ble_eq_true rfl⟩ ⟨rfl, rfl⟩ 1 rfl rfl rfl [1, 2, 3, 4, 5, 6, 7, 8, 9, 10] [(hx, .inr (6, [.ref hr, .ref h3, .ref h4, .ref ht, .ref ha, .ref hF, .ref hR, .ref hS])), (ht, .inr (5, [.ref tc, .ref tw, .ref tf, .ref tb, .ref tl, .ref ts, .ref tq])), (tc, .inl (cI, 1688, .inl (fun i => oN (ch i)))), (tw, .inl (cZ, 211, .inl (fun i => bI (wh i)))), (tf, .inl (cI, 211, .inl (fun i => nI (hf i)))), (tb, .inl (cI, 211, .inl (fun i => nI (hb i)))), (tl, .inl (cI, 211, .inl (fun i => nI (ln i)))), (ts, .inl (cI, 211, .inl (fun i => oN (sw i)))), (tq, .inl (cI, 211, .inl (fun i => nI (od i)))), (h3, .inr (2, [.ref a3, .int (nI ((spl ch hf hb j px n7).2.2.2))])), (a3, .inl (cC, 119, .inl (fun i => nI (((spl ch hf hb j px n7).2.2.1) i))))] rfl rfl [ht, tc, tw, tf, tb, tl, ts, tq, h3, a3] rfl rfl [none, some 0, some 1, some 2, some 3, some 4, some 5, some 6, some 7, some 8, some 9] rfl rfl (rest := []) rfl (Nat.le_of_ble_eq_true rfl) dX6_word_34 ⟨Nat.zero_le _, Nat.zero_le _⟩ ?_
      refine V_aload_n x 0 dX6_word_37 rfl rfl ?_
      refine V_get x 0 6 1 hinX6 rfl rfl (by decide) flX6_18 rfl dX6_word_38 ?_
      refine V_callVi x (c_Line_size l D cI cZ cC cJ h3 a3 119 ((spl ch hf hb j px n7).2.2.1) ((spl ch hf hb j px n7).2.2.2) ) 0 (gdV mlX6_104 imX2_size seX2_size inX2 coX2_size) rfl hdX2_size ⟨Nat.le_of_ble_eq_true rfl, Nat.le_of_ble_eq_true rfl⟩ ⟨rfl, rfl⟩ 9 rfl rfl rfl [9, 10] [(hx, .inr (6, [.ref hr, .ref h3, .ref h4, .ref ht, .ref ha, .ref hF, .ref hR, .ref hS])), (ht, .inr (5, [.ref tc, .ref tw, .ref tf, .ref tb, .ref tl, .ref ts, .ref tq])), (tc, .inl (cI, 1688, .inl (fun i => oN (ch i)))), (tw, .inl (cZ, 211, .inl (fun i => bI (wh i)))), (tf, .inl (cI, 211, .inl (fun i => nI (hf i)))), (tb, .inl (cI, 211, .inl (fun i => nI (hb i)))), (tl, .inl (cI, 211, .inl (fun i => nI (ln i)))), (ts, .inl (cI, 211, .inl (fun i => oN (sw i)))), (tq, .inl (cI, 211, .inl (fun i => nI (od i)))), (h3, .inr (2, [.ref a3, .int (nI (((spl ch hf hb j px n7).2.2.2)))])), (a3, .inl (cC, 119, .inl (fun i => nI ((((spl ch hf hb j px n7).2.2.1)) i))))] rfl rfl [h3, a3] rfl rfl [none, none, none, none, none, none, none, none, none, some 0, some 1] rfl rfl (rest := []) rfl (Nat.le_of_ble_eq_true rfl) dX6_word_41 ⟨Nat.zero_le _, Nat.zero_le _⟩ ?_
      refine V.ci (x' := nI ((spl ch hf hb j px n7).2.2.2)) rfl ?_
      exact hret _ _ dX6_word_44
    · skip
      omega
set_option maxHeartbeats 4000000 in
set_option maxRecDepth 100000 in
theorem x_found0 (l : Launch) (D : va_G) (cI cZ cC cJ : ClassId) (hx hr h3 h4 ht ha hF hR hS fa fb : Nat) (fu : Nat → Nat) (fv : Nat → Nat) (fk : Nat) (k : Nat) (hk : k < fk) (hm : fk ≤ 420) : CI l yX6_found wsX6_found { frames := 1, cells := 0, slots := 0, locals := 21 } D vwCl (tys4 cI cZ cC cJ) [.ref hx, .int (nI k), .int (nI 0)] [(hx, .inr (6, [.ref hr, .ref h3, .ref h4, .ref ht, .ref ha, .ref hF, .ref hR, .ref hS])), (hF, .inr (1, [.ref fa, .ref fb, .int (nI fk)])), (fa, .inl (cI, 420, .inl (fun i => nI (fu i)))), (fb, .inl (cI, 420, .inl (fun i => nI (fv i))))] ((nI (fu k))) [(hx, .inr (6, [.ref hr, .ref h3, .ref h4, .ref ht, .ref ha, .ref hF, .ref hR, .ref hS])), (hF, .inr (1, [.ref fa, .ref fb, .int (nI fk)])), (fa, .inl (cI, 420, .inl (fun i => nI (fu i)))), (fb, .inl (cI, 420, .inl (fun i => nI (fv i))))] := by
  refine CI.ofV rfl (by decide +kernel) rfl (Nat.le_of_ble_eq_true rfl) ?_
  intro κ x hret
  refine V_iload_n x 1 dX6_found_0 rfl rfl ?_
  refine V_if_ltN x 15 dX6_found_1 rfl (fun t1 => ?_) (fun f1 => ?_)
  · skip
    exact t1.elim
  · skip
    refine V_iload_n x 1 dX6_found_4 rfl rfl ?_
    refine V_aload_n x 0 dX6_found_5 rfl rfl ?_
    refine V_get x 0 6 5 hinX6 rfl rfl (by decide) flX6_41 rfl dX6_found_6 ?_
    refine V_callVi x (c_Finds_size l D cI cZ cC cJ hF fa fb fu fv fk ) 0 (gdV mlX6_145 imX1_size seX1_size inX1 coX1_size) rfl hdX1_size ⟨Nat.le_of_ble_eq_true rfl, Nat.le_of_ble_eq_true rfl⟩ ⟨rfl, rfl⟩ 1 rfl rfl rfl [1, 2, 3] [(hx, .inr (6, [.ref hr, .ref h3, .ref h4, .ref ht, .ref ha, .ref hF, .ref hR, .ref hS])), (hF, .inr (1, [.ref fa, .ref fb, .int (nI fk)])), (fa, .inl (cI, 420, .inl (fun i => nI (fu i)))), (fb, .inl (cI, 420, .inl (fun i => nI (fv i))))] rfl rfl [hF, fa, fb] rfl rfl [none, some 0, some 1, some 2] rfl rfl (rest := [.int (nI k)]) rfl (Nat.le_of_ble_eq_true rfl) dX6_found_9 ⟨Nat.zero_le _, Nat.zero_le _⟩ ?_
    refine V_icmp_ltN x 25 dX6_found_12 rfl (fun t12 => ?_) (fun f12 => ?_)
    · skip
      refine V_iload_n x 2 dX6_found_25 rfl rfl ?_
      refine V_if_eqN x 44 dX6_found_26 rfl (fun t26 => ?_) (fun f26 => ?_)
      · skip
        refine V_iload_n x 2 dX6_found_44 rfl rfl ?_
        refine V_if_neN x 59 dX6_found_45 rfl (fun t45 => ?_) (fun f45 => ?_)
        · skip
          omega
        · skip
          refine V_aload_n x 0 dX6_found_48 rfl rfl ?_
          refine V_get x 0 6 5 hinX6 rfl rfl (by decide) flX6_41 rfl dX6_found_49 ?_
          refine V_iload_n x 1 dX6_found_52 rfl rfl ?_
          refine V_callVi x (c_Finds_number l D cI cZ cC cJ hF fa fb fu fv fk k (by first | omega | assumption)) 1 (gdV mlX6_156 imX1_number seX1_number inX1 coX1_number) rfl hdX1_number ⟨Nat.le_of_ble_eq_true rfl, Nat.le_of_ble_eq_true rfl⟩ ⟨rfl, rfl⟩ 1 rfl rfl rfl [1, 2, 3] [(hx, .inr (6, [.ref hr, .ref h3, .ref h4, .ref ht, .ref ha, .ref hF, .ref hR, .ref hS])), (hF, .inr (1, [.ref fa, .ref fb, .int (nI fk)])), (fa, .inl (cI, 420, .inl (fun i => nI (fu i)))), (fb, .inl (cI, 420, .inl (fun i => nI (fv i))))] rfl rfl [hF, fa, fb] rfl rfl [none, some 0, some 1, some 2] rfl rfl (rest := []) rfl (Nat.le_of_ble_eq_true rfl) dX6_found_53 ⟨Nat.zero_le _, Nat.zero_le _⟩ ?_
          refine V_goto x 67 dX6_found_56 rfl ?_
          exact hret _ _ dX6_found_67
      · skip
        omega
    · skip
      omega
set_option maxHeartbeats 4000000 in
set_option maxRecDepth 100000 in
theorem x_found1 (l : Launch) (D : va_G) (cI cZ cC cJ : ClassId) (hx hr h3 h4 ht ha hF hR hS fa fb : Nat) (fu : Nat → Nat) (fv : Nat → Nat) (fk : Nat) (k : Nat) (hk : k < fk) (hm : fk ≤ 420) : CI l yX6_found wsX6_found { frames := 1, cells := 0, slots := 0, locals := 21 } D vwCl (tys4 cI cZ cC cJ) [.ref hx, .int (nI k), .int (nI 1)] [(hx, .inr (6, [.ref hr, .ref h3, .ref h4, .ref ht, .ref ha, .ref hF, .ref hR, .ref hS])), (hF, .inr (1, [.ref fa, .ref fb, .int (nI fk)])), (fa, .inl (cI, 420, .inl (fun i => nI (fu i)))), (fb, .inl (cI, 420, .inl (fun i => nI (fv i))))] ((nI (fv k))) [(hx, .inr (6, [.ref hr, .ref h3, .ref h4, .ref ht, .ref ha, .ref hF, .ref hR, .ref hS])), (hF, .inr (1, [.ref fa, .ref fb, .int (nI fk)])), (fa, .inl (cI, 420, .inl (fun i => nI (fu i)))), (fb, .inl (cI, 420, .inl (fun i => nI (fv i))))] := by
  refine CI.ofV rfl (by decide +kernel) rfl (Nat.le_of_ble_eq_true rfl) ?_
  intro κ x hret
  refine V_iload_n x 1 dX6_found_0 rfl rfl ?_
  refine V_if_ltN x 15 dX6_found_1 rfl (fun t1 => ?_) (fun f1 => ?_)
  · skip
    exact t1.elim
  · skip
    refine V_iload_n x 1 dX6_found_4 rfl rfl ?_
    refine V_aload_n x 0 dX6_found_5 rfl rfl ?_
    refine V_get x 0 6 5 hinX6 rfl rfl (by decide) flX6_41 rfl dX6_found_6 ?_
    refine V_callVi x (c_Finds_size l D cI cZ cC cJ hF fa fb fu fv fk ) 0 (gdV mlX6_145 imX1_size seX1_size inX1 coX1_size) rfl hdX1_size ⟨Nat.le_of_ble_eq_true rfl, Nat.le_of_ble_eq_true rfl⟩ ⟨rfl, rfl⟩ 1 rfl rfl rfl [1, 2, 3] [(hx, .inr (6, [.ref hr, .ref h3, .ref h4, .ref ht, .ref ha, .ref hF, .ref hR, .ref hS])), (hF, .inr (1, [.ref fa, .ref fb, .int (nI fk)])), (fa, .inl (cI, 420, .inl (fun i => nI (fu i)))), (fb, .inl (cI, 420, .inl (fun i => nI (fv i))))] rfl rfl [hF, fa, fb] rfl rfl [none, some 0, some 1, some 2] rfl rfl (rest := [.int (nI k)]) rfl (Nat.le_of_ble_eq_true rfl) dX6_found_9 ⟨Nat.zero_le _, Nat.zero_le _⟩ ?_
    refine V_icmp_ltN x 25 dX6_found_12 rfl (fun t12 => ?_) (fun f12 => ?_)
    · skip
      refine V_iload_n x 2 dX6_found_25 rfl rfl ?_
      refine V_if_eqN x 44 dX6_found_26 rfl (fun t26 => ?_) (fun f26 => ?_)
      · skip
        omega
      · skip
        refine V_iload_n x 2 dX6_found_29 rfl rfl ?_
        refine V_iconst (v := nI 1) x dX6_found_30 (by decide +kernel) ?_
        refine V_icmp_eqN x 44 dX6_found_31 rfl (fun t31 => ?_) (fun f31 => ?_)
        · skip
          refine V_iload_n x 2 dX6_found_44 rfl rfl ?_
          refine V_if_neN x 59 dX6_found_45 rfl (fun t45 => ?_) (fun f45 => ?_)
          · skip
            refine V_aload_n x 0 dX6_found_59 rfl rfl ?_
            refine V_get x 0 6 5 hinX6 rfl rfl (by decide) flX6_41 rfl dX6_found_60 ?_
            refine V_iload_n x 1 dX6_found_63 rfl rfl ?_
            refine V_callVi x (c_Finds_measure l D cI cZ cC cJ hF fa fb fu fv fk k (by first | omega | assumption)) 1 (gdV mlX6_159 imX1_measure seX1_measure inX1 coX1_measure) rfl hdX1_measure ⟨Nat.le_of_ble_eq_true rfl, Nat.le_of_ble_eq_true rfl⟩ ⟨rfl, rfl⟩ 1 rfl rfl rfl [1, 2, 3] [(hx, .inr (6, [.ref hr, .ref h3, .ref h4, .ref ht, .ref ha, .ref hF, .ref hR, .ref hS])), (hF, .inr (1, [.ref fa, .ref fb, .int (nI fk)])), (fa, .inl (cI, 420, .inl (fun i => nI (fu i)))), (fb, .inl (cI, 420, .inl (fun i => nI (fv i))))] rfl rfl [hF, fa, fb] rfl rfl [none, some 0, some 1, some 2] rfl rfl (rest := []) rfl (Nat.le_of_ble_eq_true rfl) dX6_found_64 ⟨Nat.zero_le _, Nat.zero_le _⟩ ?_
            exact hret _ _ dX6_found_67
          · skip
            omega
        · skip
          exact absurd rfl f31
    · skip
      omega
