/-! contracts, laid by prog/mk.py -/
set_option maxHeartbeats 4000000 in
set_option maxRecDepth 100000 in
theorem x_type_ok (l : Launch) (D : va_G) (cI cZ cC cJ : ClassId) (hx hr h3 h4 ht ha hF hR hS ar : Nat) (tx : Nat → Nat) (n : Nat) (c : Nat) (hc1 : 32 ≤ c) (hc2 : c ≤ 126) (hn : n < 60) : CI l yX6_type wsX6_type { frames := 1, cells := 0, slots := 0, locals := 21 } D vwCl (tys4 cI cZ cC cJ) [.ref hx, .int (nI c)] [(hx, .inr (6, [.ref hr, .ref h3, .ref h4, .ref ht, .ref ha, .ref hF, .ref hR, .ref hS])), (hr, .inr (2, [.ref ar, .int (nI n)])), (ar, .inl (cC, 60, .inl (fun i => nI (tx i))))] ((bI true)) [(hx, .inr (6, [.ref hr, .ref h3, .ref h4, .ref ht, .ref ha, .ref hF, .ref hR, .ref hS])), (hr, .inr (2, [.ref ar, .int (nI (n + 1))])), (ar, .inl (cC, 60, .inl (fun i => nI ((va_up tx n c) i))))] := by
  refine CI.ofV (nar_bI2 _) (by decide +kernel) rfl (Nat.le_of_ble_eq_true rfl) ?_
  intro κ x hret
  refine V_iload_n x 1 dX6_type_0 rfl rfl ?_
  refine V_bipush (v := nI 32) x dX6_type_1 (by decide +kernel) ?_
  refine V_icmp_ltN x 27 dX6_type_3 rfl (fun t3 => ?_) (fun f3 => ?_)
  · skip
    omega
  · skip
    refine V_iload_n x 1 dX6_type_6 rfl rfl ?_
    refine V_bipush (v := nI 126) x dX6_type_7 (by decide +kernel) ?_
    refine V_icmp_gtN x 27 dX6_type_9 rfl (fun t9 => ?_) (fun f9 => ?_)
    · skip
      omega
    · skip
      refine V_aload_n x 0 dX6_type_12 rfl rfl ?_
      refine V_get x 0 6 0 hinX6 rfl rfl (by decide) flX6_14 rfl dX6_type_13 ?_
      refine V_iload_n x 1 dX6_type_16 rfl rfl ?_
      refine V_callVi x (c_Line_put l D cI cZ cC cJ hr ar 60 tx n c (by first | omega | assumption) (by first | omega | assumption) (by first | omega | assumption)) 1 (gdV mlX6_59 imX2_put seX2_put inX2 coX2_put) rfl hdX2_put ⟨Nat.le_of_ble_eq_true rfl, Nat.le_of_ble_eq_true rfl⟩ ⟨rfl, rfl⟩ 1 rfl rfl rfl [1, 2] [(hx, .inr (6, [.ref hr, .ref h3, .ref h4, .ref ht, .ref ha, .ref hF, .ref hR, .ref hS])), (hr, .inr (2, [.ref ar, .int (nI (n + 1))])), (ar, .inl (cC, 60, .inl (fun i => nI ((va_up tx n c) i))))] rfl rfl [hr, ar] rfl rfl [none, some 0, some 1] rfl rfl (rest := []) rfl (Nat.le_of_ble_eq_true rfl) dX6_type_17 ⟨Nat.zero_le _, Nat.zero_le _⟩ ?_
      refine V_if_eqB x 27 dX6_type_20 rfl (fun t20 => ?_) (fun f20 => ?_)
      · skip
        cases t20
      · skip
        refine V_iconst (v := nI 1) x dX6_type_23 (by decide +kernel) ?_
        refine V_goto x 28 dX6_type_24 rfl ?_
        refine V.ci (x' := bI true) (by decide) ?_
        exact hret _ _ dX6_type_28
set_option maxHeartbeats 4000000 in
set_option maxRecDepth 100000 in
theorem x_type_no (l : Launch) (D : va_G) (cI cZ cC cJ : ClassId) (hx hr h3 h4 ht ha hF hR hS ar : Nat) (tx : Nat → Nat) (n : Nat) (c : Nat) (hc : c < 65536) (hn : n ≤ 60) (hno : ¬ (32 ≤ c ∧ c ≤ 126 ∧ n < 60)) : CI l yX6_type wsX6_type { frames := 1, cells := 0, slots := 0, locals := 21 } D vwCl (tys4 cI cZ cC cJ) [.ref hx, .int (nI c)] [(hx, .inr (6, [.ref hr, .ref h3, .ref h4, .ref ht, .ref ha, .ref hF, .ref hR, .ref hS])), (hr, .inr (2, [.ref ar, .int (nI n)])), (ar, .inl (cC, 60, .inl (fun i => nI (tx i))))] ((bI false)) [(hx, .inr (6, [.ref hr, .ref h3, .ref h4, .ref ht, .ref ha, .ref hF, .ref hR, .ref hS])), (hr, .inr (2, [.ref ar, .int (nI n)])), (ar, .inl (cC, 60, .inl (fun i => nI (tx i))))] := by
  refine CI.ofV (nar_bI2 _) (by decide +kernel) rfl (Nat.le_of_ble_eq_true rfl) ?_
  intro κ x hret
  refine V_iload_n x 1 dX6_type_0 rfl rfl ?_
  refine V_bipush (v := nI 32) x dX6_type_1 (by decide +kernel) ?_
  refine V_icmp_ltN x 27 dX6_type_3 rfl (fun t3 => ?_) (fun f3 => ?_)
  · skip
    refine V_iconst (v := nI 0) x dX6_type_27 (by decide +kernel) ?_
    refine V.ci (x' := bI false) (by decide) ?_
    exact hret _ _ dX6_type_28
  · skip
    refine V_iload_n x 1 dX6_type_6 rfl rfl ?_
    refine V_bipush (v := nI 126) x dX6_type_7 (by decide +kernel) ?_
    refine V_icmp_gtN x 27 dX6_type_9 rfl (fun t9 => ?_) (fun f9 => ?_)
    · skip
      refine V_iconst (v := nI 0) x dX6_type_27 (by decide +kernel) ?_
      refine V.ci (x' := bI false) (by decide) ?_
      exact hret _ _ dX6_type_28
    · skip
      refine V_aload_n x 0 dX6_type_12 rfl rfl ?_
      refine V_get x 0 6 0 hinX6 rfl rfl (by decide) flX6_14 rfl dX6_type_13 ?_
      refine V_iload_n x 1 dX6_type_16 rfl rfl ?_
      refine V_callVi x (c_Line_full l D cI cZ cC cJ hr ar 60 tx n c (by first | omega | assumption) (by first | omega | assumption) (by first | omega | assumption)) 1 (gdV mlX6_59 imX2_put seX2_put inX2 coX2_put) rfl hdX2_put ⟨Nat.le_of_ble_eq_true rfl, Nat.le_of_ble_eq_true rfl⟩ ⟨rfl, rfl⟩ 1 rfl rfl rfl [1, 2] [(hx, .inr (6, [.ref hr, .ref h3, .ref h4, .ref ht, .ref ha, .ref hF, .ref hR, .ref hS])), (hr, .inr (2, [.ref ar, .int (nI n)])), (ar, .inl (cC, 60, .inl (fun i => nI (tx i))))] rfl rfl [hr, ar] rfl rfl [none, some 0, some 1] rfl rfl (rest := []) rfl (Nat.le_of_ble_eq_true rfl) dX6_type_17 ⟨Nat.zero_le _, Nat.zero_le _⟩ ?_
      refine V_if_eqB x 27 dX6_type_20 rfl (fun t20 => ?_) (fun f20 => ?_)
      · skip
        refine V_iconst (v := nI 0) x dX6_type_27 (by decide +kernel) ?_
        refine V.ci (x' := bI false) (by decide) ?_
        exact hret _ _ dX6_type_28
      · skip
        cases f20
set_option maxHeartbeats 4000000 in
set_option maxRecDepth 100000 in
theorem x_wipe (l : Launch) (D : va_G) (cI cZ cC cJ : ClassId) (hx hr h3 h4 ht ha hF hR hS ar : Nat) (tx : Nat → Nat) (n : Nat)  : CI l yX6_wipe wsX6_wipe { frames := 1, cells := 0, slots := 0, locals := 21 } D vwCl (tys4 cI cZ cC cJ) [.ref hx] [(hx, .inr (6, [.ref hr, .ref h3, .ref h4, .ref ht, .ref ha, .ref hF, .ref hR, .ref hS])), (hr, .inr (2, [.ref ar, .int (nI n)])), (ar, .inl (cC, 60, .inl (fun i => nI (tx i))))] ((nI n)) [(hx, .inr (6, [.ref hr, .ref h3, .ref h4, .ref ht, .ref ha, .ref hF, .ref hR, .ref hS])), (hr, .inr (2, [.ref ar, .int (nI 0)])), (ar, .inl (cC, 60, .inl (fun i => nI (tx i))))] := by
  refine CI.ofV rfl (by decide +kernel) rfl (Nat.le_of_ble_eq_true rfl) ?_
  intro κ x hret
  refine V_aload_n x 0 dX6_wipe_0 rfl rfl ?_
  refine V_get x 0 6 0 hinX6 rfl rfl (by decide) flX6_14 rfl dX6_wipe_1 ?_
  refine V_callVi x (c_Line_empty l D cI cZ cC cJ hr ar 60 tx n ) 0 (gdV mlX6_63 imX2_empty seX2_empty inX2 coX2_empty) rfl hdX2_empty ⟨Nat.le_of_ble_eq_true rfl, Nat.le_of_ble_eq_true rfl⟩ ⟨rfl, rfl⟩ 1 rfl rfl rfl [1, 2] [(hx, .inr (6, [.ref hr, .ref h3, .ref h4, .ref ht, .ref ha, .ref hF, .ref hR, .ref hS])), (hr, .inr (2, [.ref ar, .int (nI 0)])), (ar, .inl (cC, 60, .inl (fun i => nI (tx i))))] rfl rfl [hr, ar] rfl rfl [none, some 0, some 1] rfl rfl (rest := []) rfl (Nat.le_of_ble_eq_true rfl) dX6_wipe_4 ⟨Nat.zero_le _, Nat.zero_le _⟩ ?_
  exact hret _ _ dX6_wipe_7
set_option maxHeartbeats 4000000 in
set_option maxRecDepth 100000 in
theorem x_words (l : Launch) (D : va_G) (cI cZ cC cJ : ClassId) (hx hr h3 h4 ht ha hF hR hS tc tw tf tb tl ts tq : Nat) (ch : Nat → Option Nat) (wh : Nat → Bool) (hf : Nat → Nat) (hb : Nat → Nat) (ln : Nat → Nat) (sw : Nat → Option Nat) (od : Nat → Nat)  : CI l yX6_words wsX6_words { frames := 1, cells := 0, slots := 0, locals := 20 } D vwCl (tys4 cI cZ cC cJ) [.ref hx] [(hx, .inr (6, [.ref hr, .ref h3, .ref h4, .ref ht, .ref ha, .ref hF, .ref hR, .ref hS])), (ht, .inr (5, [.ref tc, .ref tw, .ref tf, .ref tb, .ref tl, .ref ts, .ref tq])), (tc, .inl (cI, 1688, .inl (fun i => oN (ch i)))), (tw, .inl (cZ, 211, .inl (fun i => bI (wh i)))), (tf, .inl (cI, 211, .inl (fun i => nI (hf i)))), (tb, .inl (cI, 211, .inl (fun i => nI (hb i)))), (tl, .inl (cI, 211, .inl (fun i => nI (ln i)))), (ts, .inl (cI, 211, .inl (fun i => oN (sw i)))), (tq, .inl (cI, 211, .inl (fun i => nI (od i))))] ((nI (hf 0))) [(hx, .inr (6, [.ref hr, .ref h3, .ref h4, .ref ht, .ref ha, .ref hF, .ref hR, .ref hS])), (ht, .inr (5, [.ref tc, .ref tw, .ref tf, .ref tb, .ref tl, .ref ts, .ref tq])), (tc, .inl (cI, 1688, .inl (fun i => oN (ch i)))), (tw, .inl (cZ, 211, .inl (fun i => bI (wh i)))), (tf, .inl (cI, 211, .inl (fun i => nI (hf i)))), (tb, .inl (cI, 211, .inl (fun i => nI (hb i)))), (tl, .inl (cI, 211, .inl (fun i => nI (ln i)))), (ts, .inl (cI, 211, .inl (fun i => oN (sw i)))), (tq, .inl (cI, 211, .inl (fun i => nI (od i))))] := by
  refine CI.ofV rfl (by decide +kernel) rfl (Nat.le_of_ble_eq_true rfl) ?_
  intro κ x hret
  refine V_aload_n x 0 dX6_words_0 rfl rfl ?_
  refine V_get x 0 6 3 hinX6 rfl rfl (by decide) flX6_27 rfl dX6_words_1 ?_
  refine V_callVi x (c_held l D cI cZ cC cJ ht tc tw tf tb tl ts tq ch wh hf hb ln sw od ) 0 (gdV mlX6_67 imX5_held seX5_held inX5 coX5_held) rfl hdX5_held ⟨Nat.le_of_ble_eq_true rfl, Nat.le_of_ble_eq_true rfl⟩ ⟨rfl, rfl⟩ 1 rfl rfl rfl [1, 2, 3, 4, 5, 6, 7, 8] [(hx, .inr (6, [.ref hr, .ref h3, .ref h4, .ref ht, .ref ha, .ref hF, .ref hR, .ref hS])), (ht, .inr (5, [.ref tc, .ref tw, .ref tf, .ref tb, .ref tl, .ref ts, .ref tq])), (tc, .inl (cI, 1688, .inl (fun i => oN (ch i)))), (tw, .inl (cZ, 211, .inl (fun i => bI (wh i)))), (tf, .inl (cI, 211, .inl (fun i => nI (hf i)))), (tb, .inl (cI, 211, .inl (fun i => nI (hb i)))), (tl, .inl (cI, 211, .inl (fun i => nI (ln i)))), (ts, .inl (cI, 211, .inl (fun i => oN (sw i)))), (tq, .inl (cI, 211, .inl (fun i => nI (od i))))] rfl rfl [ht, tc, tw, tf, tb, tl, ts, tq] rfl rfl [none, some 0, some 1, some 2, some 3, some 4, some 5, some 6, some 7] rfl rfl (rest := []) rfl (Nat.le_of_ble_eq_true rfl) dX6_words_4 ⟨Nat.zero_le _, Nat.zero_le _⟩ ?_
  exact hret _ _ dX6_words_7
set_option maxHeartbeats 4000000 in
set_option maxRecDepth 100000 in
theorem x_length (l : Launch) (D : va_G) (cI cZ cC cJ : ClassId) (hx hr h3 h4 ht ha hF hR hS a3 : Nat) (px : Nat → Nat) (n3 : Nat)  : CI l yX6_length wsX6_length { frames := 1, cells := 0, slots := 0, locals := 20 } D vwCl (tys4 cI cZ cC cJ) [.ref hx] [(hx, .inr (6, [.ref hr, .ref h3, .ref h4, .ref ht, .ref ha, .ref hF, .ref hR, .ref hS])), (h3, .inr (2, [.ref a3, .int (nI n3)])), (a3, .inl (cC, 119, .inl (fun i => nI (px i))))] ((nI n3)) [(hx, .inr (6, [.ref hr, .ref h3, .ref h4, .ref ht, .ref ha, .ref hF, .ref hR, .ref hS])), (h3, .inr (2, [.ref a3, .int (nI n3)])), (a3, .inl (cC, 119, .inl (fun i => nI (px i))))] := by
  refine CI.ofV rfl (by decide +kernel) rfl (Nat.le_of_ble_eq_true rfl) ?_
  intro κ x hret
  refine V_aload_n x 0 dX6_length_0 rfl rfl ?_
  refine V_get x 0 6 1 hinX6 rfl rfl (by decide) flX6_18 rfl dX6_length_1 ?_
  refine V_callVi x (c_Line_size l D cI cZ cC cJ h3 a3 119 px n3 ) 0 (gdV mlX6_104 imX2_size seX2_size inX2 coX2_size) rfl hdX2_size ⟨Nat.le_of_ble_eq_true rfl, Nat.le_of_ble_eq_true rfl⟩ ⟨rfl, rfl⟩ 1 rfl rfl rfl [1, 2] [(hx, .inr (6, [.ref hr, .ref h3, .ref h4, .ref ht, .ref ha, .ref hF, .ref hR, .ref hS])), (h3, .inr (2, [.ref a3, .int (nI n3)])), (a3, .inl (cC, 119, .inl (fun i => nI (px i))))] rfl rfl [h3, a3] rfl rfl [none, some 0, some 1] rfl rfl (rest := []) rfl (Nat.le_of_ble_eq_true rfl) dX6_length_4 ⟨Nat.zero_le _, Nat.zero_le _⟩ ?_
  exact hret _ _ dX6_length_7
set_option maxHeartbeats 4000000 in
set_option maxRecDepth 100000 in
theorem x_charAt (l : Launch) (D : va_G) (cI cZ cC cJ : ClassId) (hx hr h3 h4 ht ha hF hR hS a3 : Nat) (px : Nat → Nat) (n3 : Nat) (p : Nat) (hp : p < n3) (hn3 : n3 ≤ 119) (hpx : ∀ i, px i < 65536) : CI l yX6_charAt wsX6_charAt { frames := 1, cells := 0, slots := 0, locals := 21 } D vwCl (tys4 cI cZ cC cJ) [.ref hx, .int (nI p)] [(hx, .inr (6, [.ref hr, .ref h3, .ref h4, .ref ht, .ref ha, .ref hF, .ref hR, .ref hS])), (h3, .inr (2, [.ref a3, .int (nI n3)])), (a3, .inl (cC, 119, .inl (fun i => nI (px i))))] ((nI (px p))) [(hx, .inr (6, [.ref hr, .ref h3, .ref h4, .ref ht, .ref ha, .ref hF, .ref hR, .ref hS])), (h3, .inr (2, [.ref a3, .int (nI n3)])), (a3, .inl (cC, 119, .inl (fun i => nI (px i))))] := by
  refine CI.ofV (nar_ch2 (hpx p)) (by decide +kernel) rfl (Nat.le_of_ble_eq_true rfl) ?_
  intro κ x hret
  refine V_aload_n x 0 dX6_charAt_0 rfl rfl ?_
  refine V_get x 0 6 1 hinX6 rfl rfl (by decide) flX6_18 rfl dX6_charAt_1 ?_
  refine V_iload_n x 1 dX6_charAt_4 rfl rfl ?_
  refine V_callVi x (c_Line_at l D cI cZ cC cJ h3 a3 119 px n3 p (by first | omega | assumption) (by first | omega | assumption) (by first | omega | assumption) (by first | omega | assumption)) 1 (gdV mlX6_114 imX2_at seX2_at inX2 coX2_at) rfl hdX2_at ⟨Nat.le_of_ble_eq_true rfl, Nat.le_of_ble_eq_true rfl⟩ ⟨rfl, rfl⟩ 1 rfl rfl rfl [1, 2] [(hx, .inr (6, [.ref hr, .ref h3, .ref h4, .ref ht, .ref ha, .ref hF, .ref hR, .ref hS])), (h3, .inr (2, [.ref a3, .int (nI n3)])), (a3, .inl (cC, 119, .inl (fun i => nI (px i))))] rfl rfl [h3, a3] rfl rfl [none, some 0, some 1] rfl rfl (rest := []) rfl (Nat.le_of_ble_eq_true rfl) dX6_charAt_5 ⟨Nat.zero_le _, Nat.zero_le _⟩ ?_
  exact hret _ _ dX6_charAt_8
set_option maxHeartbeats 4000000 in
set_option maxRecDepth 100000 in
theorem x_charAtZ (l : Launch) (D : va_G) (cI cZ cC cJ : ClassId) (hx hr h3 h4 ht ha hF hR hS a3 : Nat) (px : Nat → Nat) (n3 : Nat) (z : Int32) (hz : ¬ (0 ≤ z ∧ z < nI n3)) : CI l yX6_charAt wsX6_charAt { frames := 1, cells := 0, slots := 0, locals := 21 } D vwCl (tys4 cI cZ cC cJ) [.ref hx, .int z] [(hx, .inr (6, [.ref hr, .ref h3, .ref h4, .ref ht, .ref ha, .ref hF, .ref hR, .ref hS])), (h3, .inr (2, [.ref a3, .int (nI n3)])), (a3, .inl (cC, 119, .inl (fun i => nI (px i))))] ((nI 32)) [(hx, .inr (6, [.ref hr, .ref h3, .ref h4, .ref ht, .ref ha, .ref hF, .ref hR, .ref hS])), (h3, .inr (2, [.ref a3, .int (nI n3)])), (a3, .inl (cC, 119, .inl (fun i => nI (px i))))] := by
  refine CI.ofV (nar_ch2 (by omega)) (by decide +kernel) rfl (Nat.le_of_ble_eq_true rfl) ?_
  intro κ x hret
  refine V_aload_n x 0 dX6_charAt_0 rfl rfl ?_
  refine V_get x 0 6 1 hinX6 rfl rfl (by decide) flX6_18 rfl dX6_charAt_1 ?_
  refine V_iload_n x 1 dX6_charAt_4 rfl rfl ?_
  refine V_callVi x (c_Line_atZ l D cI cZ cC cJ h3 a3 119 px n3 z (by first | omega | assumption)) 1 (gdV mlX6_114 imX2_at seX2_at inX2 coX2_at) rfl hdX2_at ⟨Nat.le_of_ble_eq_true rfl, Nat.le_of_ble_eq_true rfl⟩ ⟨rfl, rfl⟩ 1 rfl rfl rfl [1, 2] [(hx, .inr (6, [.ref hr, .ref h3, .ref h4, .ref ht, .ref ha, .ref hF, .ref hR, .ref hS])), (h3, .inr (2, [.ref a3, .int (nI n3)])), (a3, .inl (cC, 119, .inl (fun i => nI (px i))))] rfl rfl [h3, a3] rfl rfl [none, some 0, some 1] rfl rfl (rest := []) rfl (Nat.le_of_ble_eq_true rfl) dX6_charAt_5 ⟨Nat.zero_le _, Nat.zero_le _⟩ ?_
  exact hret _ _ dX6_charAt_8
set_option maxHeartbeats 4000000 in
set_option maxRecDepth 100000 in
theorem x_rank (l : Launch) (D : va_G) (cI cZ cC cJ : ClassId) (hx hr h3 h4 ht ha hF hR hS ar tc tw tf tb tl ts tq : Nat) (tx : Nat → Nat) (n : Nat) (ch : Nat → Option Nat) (wh : Nat → Bool) (hf : Nat → Nat) (hb : Nat → Nat) (ln : Nat → Nat) (sw : Nat → Option Nat) (od : Nat → Nat) (hrg : rg ch) (hn60 : n ≤ 60) (htx : ∀ i, tx i < 65536) : CI l yX6_rank wsX6_rank { frames := 3, cells := 0, slots := 0, locals := 68 } D vwCl (tys4 cI cZ cC cJ) [.ref hx] [(hx, .inr (6, [.ref hr, .ref h3, .ref h4, .ref ht, .ref ha, .ref hF, .ref hR, .ref hS])), (hr, .inr (2, [.ref ar, .int (nI n)])), (ar, .inl (cC, 60, .inl (fun i => nI (tx i)))), (ht, .inr (5, [.ref tc, .ref tw, .ref tf, .ref tb, .ref tl, .ref ts, .ref tq])), (tc, .inl (cI, 1688, .inl (fun i => oN (ch i)))), (tw, .inl (cZ, 211, .inl (fun i => bI (wh i)))), (tf, .inl (cI, 211, .inl (fun i => nI (hf i)))), (tb, .inl (cI, 211, .inl (fun i => nI (hb i)))), (tl, .inl (cI, 211, .inl (fun i => nI (ln i)))), (ts, .inl (cI, 211, .inl (fun i => oN (sw i)))), (tq, .inl (cI, 211, .inl (fun i => nI (od i))))] ((oN ((if whO wh (fwk ch tx n) then fwk ch tx n else none).map hb))) [(hx, .inr (6, [.ref hr, .ref h3, .ref h4, .ref ht, .ref ha, .ref hF, .ref hR, .ref hS])), (hr, .inr (2, [.ref ar, .int (nI 0)])), (ar, .inl (cC, 60, .inl (fun i => nI (tx i)))), (ht, .inr (5, [.ref tc, .ref tw, .ref tf, .ref tb, .ref tl, .ref ts, .ref tq])), (tc, .inl (cI, 1688, .inl (fun i => oN (ch i)))), (tw, .inl (cZ, 211, .inl (fun i => bI (wh i)))), (tf, .inl (cI, 211, .inl (fun i => nI (hf i)))), (tb, .inl (cI, 211, .inl (fun i => nI (hb i)))), (tl, .inl (cI, 211, .inl (fun i => nI (ln i)))), (ts, .inl (cI, 211, .inl (fun i => oN (sw i)))), (tq, .inl (cI, 211, .inl (fun i => nI (od i))))] := by
  refine CI.ofV rfl (by decide +kernel) rfl (Nat.le_of_ble_eq_true rfl) ?_
  intro κ x hret
  refine V_aload_n x 0 dX6_rank_0 rfl rfl ?_
  refine V_get x 0 6 3 hinX6 rfl rfl (by decide) flX6_27 rfl dX6_rank_1 ?_
  refine V_aload_n x 0 dX6_rank_4 rfl rfl ?_
  refine V_get x 0 6 0 hinX6 rfl rfl (by decide) flX6_14 rfl dX6_rank_5 ?_
  refine V_callVi x (c_find l D cI cZ cC cJ ht tc tw tf tb tl ts tq hr ar ch wh hf hb ln sw od 60 tx n (by first | omega | assumption) (by first | omega | assumption) (by first | omega | assumption) (by first | omega | assumption)) 1 (gdV mlX6_81 imX5_find seX5_find inX5 coX5_find) rfl hdX5_find ⟨Nat.le_of_ble_eq_true rfl, Nat.le_of_ble_eq_true rfl⟩ ⟨rfl, rfl⟩ 3 rfl rfl rfl [3, 4, 5, 6, 7, 8, 9, 10, 1, 2] [(hx, .inr (6, [.ref hr, .ref h3, .ref h4, .ref ht, .ref ha, .ref hF, .ref hR, .ref hS])), (hr, .inr (2, [.ref ar, .int (nI n)])), (ar, .inl (cC, 60, .inl (fun i => nI (tx i)))), (ht, .inr (5, [.ref tc, .ref tw, .ref tf, .ref tb, .ref tl, .ref ts, .ref tq])), (tc, .inl (cI, 1688, .inl (fun i => oN (ch i)))), (tw, .inl (cZ, 211, .inl (fun i => bI (wh i)))), (tf, .inl (cI, 211, .inl (fun i => nI (hf i)))), (tb, .inl (cI, 211, .inl (fun i => nI (hb i)))), (tl, .inl (cI, 211, .inl (fun i => nI (ln i)))), (ts, .inl (cI, 211, .inl (fun i => oN (sw i)))), (tq, .inl (cI, 211, .inl (fun i => nI (od i))))] rfl rfl [ht, tc, tw, tf, tb, tl, ts, tq, hr, ar] rfl rfl [none, some 8, some 9, some 0, some 1, some 2, some 3, some 4, some 5, some 6, some 7] rfl rfl (rest := []) rfl (Nat.le_of_ble_eq_true rfl) dX6_rank_8 ⟨Nat.zero_le _, Nat.zero_le _⟩ ?_
  refine V_istore_n x 1 [(1, .int (oN (fwk ch tx n))), (0, .ref hx)] dX6_rank_11 rfl (by decide) rfl ?_
  refine V_aload_n x 0 dX6_rank_12 rfl rfl ?_
  refine V_get x 0 6 0 hinX6 rfl rfl (by decide) flX6_14 rfl dX6_rank_13 ?_
  refine V_callVi x (c_Line_empty l D cI cZ cC cJ hr ar 60 tx n ) 0 (gdV mlX6_63 imX2_empty seX2_empty inX2 coX2_empty) rfl hdX2_empty ⟨Nat.le_of_ble_eq_true rfl, Nat.le_of_ble_eq_true rfl⟩ ⟨rfl, rfl⟩ 1 rfl rfl rfl [1, 2] [(hx, .inr (6, [.ref hr, .ref h3, .ref h4, .ref ht, .ref ha, .ref hF, .ref hR, .ref hS])), (hr, .inr (2, [.ref ar, .int (nI 0)])), (ar, .inl (cC, 60, .inl (fun i => nI (tx i)))), (ht, .inr (5, [.ref tc, .ref tw, .ref tf, .ref tb, .ref tl, .ref ts, .ref tq])), (tc, .inl (cI, 1688, .inl (fun i => oN (ch i)))), (tw, .inl (cZ, 211, .inl (fun i => bI (wh i)))), (tf, .inl (cI, 211, .inl (fun i => nI (hf i)))), (tb, .inl (cI, 211, .inl (fun i => nI (hb i)))), (tl, .inl (cI, 211, .inl (fun i => nI (ln i)))), (ts, .inl (cI, 211, .inl (fun i => oN (sw i)))), (tq, .inl (cI, 211, .inl (fun i => nI (od i))))] rfl rfl [hr, ar] rfl rfl [none, some 0, some 1] rfl rfl (rest := []) rfl (Nat.le_of_ble_eq_true rfl) dX6_rank_16 ⟨Nat.zero_le _, Nat.zero_le _⟩ ?_
  refine V_pop x dX6_rank_19 rfl ?_
  refine V_aload_n x 0 dX6_rank_20 rfl rfl ?_
  refine V_get x 0 6 3 hinX6 rfl rfl (by decide) flX6_27 rfl dX6_rank_21 ?_
  refine V_iload_n x 1 dX6_rank_24 rfl rfl ?_
  refine V_callVi x (c_isHeld l D cI cZ cC cJ ht tc tw tf tb tl ts tq ch wh hf hb ln sw od (fwk ch tx n) (fun z hz => fwk_lt hrg hz)) 1 (gdV mlX6_85 imX5_isHeld seX5_isHeld inX5 coX5_isHeld) rfl hdX5_isHeld ⟨Nat.le_of_ble_eq_true rfl, Nat.le_of_ble_eq_true rfl⟩ ⟨rfl, rfl⟩ 3 rfl rfl rfl [3, 4, 5, 6, 7, 8, 9, 10] [(hx, .inr (6, [.ref hr, .ref h3, .ref h4, .ref ht, .ref ha, .ref hF, .ref hR, .ref hS])), (hr, .inr (2, [.ref ar, .int (nI 0)])), (ar, .inl (cC, 60, .inl (fun i => nI (tx i)))), (ht, .inr (5, [.ref tc, .ref tw, .ref tf, .ref tb, .ref tl, .ref ts, .ref tq])), (tc, .inl (cI, 1688, .inl (fun i => oN (ch i)))), (tw, .inl (cZ, 211, .inl (fun i => bI (wh i)))), (tf, .inl (cI, 211, .inl (fun i => nI (hf i)))), (tb, .inl (cI, 211, .inl (fun i => nI (hb i)))), (tl, .inl (cI, 211, .inl (fun i => nI (ln i)))), (ts, .inl (cI, 211, .inl (fun i => oN (sw i)))), (tq, .inl (cI, 211, .inl (fun i => nI (od i))))] rfl rfl [ht, tc, tw, tf, tb, tl, ts, tq] rfl rfl [none, none, none, some 0, some 1, some 2, some 3, some 4, some 5, some 6, some 7] rfl rfl (rest := []) rfl (Nat.le_of_ble_eq_true rfl) dX6_rank_25 ⟨Nat.zero_le _, Nat.zero_le _⟩ ?_
  refine V_if_eqB x 42 dX6_rank_28 rfl (fun t28 => ?_) (fun f28 => ?_)
  · skip
    refine V_iconst (v := (-1)) x dX6_rank_42 (by decide +kernel) ?_
    refine V.ci (x' := oN ((if whO wh (fwk ch tx n) then fwk ch tx n else none).map hb)) (by first | (rw [if_neg (by rw [t28]; decide)]; rfl) | (rw [if_pos f28, hz]; rfl)) ?_
    exact hret _ _ dX6_rank_43
  · skip
    obtain ⟨z, hz⟩ := whO_t f28
    simp only [hz, oN_some]
    refine V_aload_n x 0 dX6_rank_31 rfl rfl ?_
    refine V_get x 0 6 3 hinX6 rfl rfl (by decide) flX6_27 rfl dX6_rank_32 ?_
    refine V_iload_n x 1 dX6_rank_35 rfl rfl ?_
    refine V_callVi x (c_numberOf l D cI cZ cC cJ ht tc tw tf tb tl ts tq ch wh hf hb ln sw od z (fwk_lt hrg hz)) 1 (gdV mlX6_107 imX5_numberOf seX5_numberOf inX5 coX5_numberOf) rfl hdX5_numberOf ⟨Nat.le_of_ble_eq_true rfl, Nat.le_of_ble_eq_true rfl⟩ ⟨rfl, rfl⟩ 3 rfl rfl rfl [3, 4, 5, 6, 7, 8, 9, 10] [(hx, .inr (6, [.ref hr, .ref h3, .ref h4, .ref ht, .ref ha, .ref hF, .ref hR, .ref hS])), (hr, .inr (2, [.ref ar, .int (nI 0)])), (ar, .inl (cC, 60, .inl (fun i => nI (tx i)))), (ht, .inr (5, [.ref tc, .ref tw, .ref tf, .ref tb, .ref tl, .ref ts, .ref tq])), (tc, .inl (cI, 1688, .inl (fun i => oN (ch i)))), (tw, .inl (cZ, 211, .inl (fun i => bI (wh i)))), (tf, .inl (cI, 211, .inl (fun i => nI (hf i)))), (tb, .inl (cI, 211, .inl (fun i => nI (hb i)))), (tl, .inl (cI, 211, .inl (fun i => nI (ln i)))), (ts, .inl (cI, 211, .inl (fun i => oN (sw i)))), (tq, .inl (cI, 211, .inl (fun i => nI (od i))))] rfl rfl [ht, tc, tw, tf, tb, tl, ts, tq] rfl rfl [none, none, none, some 0, some 1, some 2, some 3, some 4, some 5, some 6, some 7] rfl rfl (rest := []) rfl (Nat.le_of_ble_eq_true rfl) dX6_rank_36 ⟨Nat.zero_le _, Nat.zero_le _⟩ ?_
    refine V_goto x 43 dX6_rank_39 rfl ?_
    refine V.ci (x' := oN ((if whO wh (fwk ch tx n) then fwk ch tx n else none).map hb)) (by first | (rw [if_neg (by rw [t28]; decide)]; rfl) | (rw [if_pos f28, hz]; rfl)) ?_
    exact hret _ _ dX6_rank_43
set_option maxHeartbeats 4000000 in
set_option maxRecDepth 100000 in
theorem x_starting (l : Launch) (D : va_G) (cI cZ cC cJ : ClassId) (hx hr h3 h4 ht ha hF hR hS ar tc tw tf tb tl ts tq : Nat) (tx : Nat → Nat) (n : Nat) (ch : Nat → Option Nat) (wh : Nat → Bool) (hf : Nat → Nat) (hb : Nat → Nat) (ln : Nat → Nat) (sw : Nat → Option Nat) (od : Nat → Nat) (hrg : rg ch) (hn60 : n ≤ 60) (htx : ∀ i, tx i < 65536) : CI l yX6_starting wsX6_starting { frames := 3, cells := 0, slots := 0, locals := 68 } D vwCl (tys4 cI cZ cC cJ) [.ref hx] [(hx, .inr (6, [.ref hr, .ref h3, .ref h4, .ref ht, .ref ha, .ref hF, .ref hR, .ref hS])), (hr, .inr (2, [.ref ar, .int (nI n)])), (ar, .inl (cC, 60, .inl (fun i => nI (tx i)))), (ht, .inr (5, [.ref tc, .ref tw, .ref tf, .ref tb, .ref tl, .ref ts, .ref tq])), (tc, .inl (cI, 1688, .inl (fun i => oN (ch i)))), (tw, .inl (cZ, 211, .inl (fun i => bI (wh i)))), (tf, .inl (cI, 211, .inl (fun i => nI (hf i)))), (tb, .inl (cI, 211, .inl (fun i => nI (hb i)))), (tl, .inl (cI, 211, .inl (fun i => nI (ln i)))), (ts, .inl (cI, 211, .inl (fun i => oN (sw i)))), (tq, .inl (cI, 211, .inl (fun i => nI (od i))))] ((nI (((fwk ch tx n).map hf).getD 0))) [(hx, .inr (6, [.ref hr, .ref h3, .ref h4, .ref ht, .ref ha, .ref hF, .ref hR, .ref hS])), (hr, .inr (2, [.ref ar, .int (nI 0)])), (ar, .inl (cC, 60, .inl (fun i => nI (tx i)))), (ht, .inr (5, [.ref tc, .ref tw, .ref tf, .ref tb, .ref tl, .ref ts, .ref tq])), (tc, .inl (cI, 1688, .inl (fun i => oN (ch i)))), (tw, .inl (cZ, 211, .inl (fun i => bI (wh i)))), (tf, .inl (cI, 211, .inl (fun i => nI (hf i)))), (tb, .inl (cI, 211, .inl (fun i => nI (hb i)))), (tl, .inl (cI, 211, .inl (fun i => nI (ln i)))), (ts, .inl (cI, 211, .inl (fun i => oN (sw i)))), (tq, .inl (cI, 211, .inl (fun i => nI (od i))))] := by
  refine CI.ofV rfl (by decide +kernel) rfl (Nat.le_of_ble_eq_true rfl) ?_
  intro κ x hret
  refine V_aload_n x 0 dX6_starting_0 rfl rfl ?_
  refine V_get x 0 6 3 hinX6 rfl rfl (by decide) flX6_27 rfl dX6_starting_1 ?_
  refine V_aload_n x 0 dX6_starting_4 rfl rfl ?_
  refine V_get x 0 6 0 hinX6 rfl rfl (by decide) flX6_14 rfl dX6_starting_5 ?_
  refine V_callVi x (c_find l D cI cZ cC cJ ht tc tw tf tb tl ts tq hr ar ch wh hf hb ln sw od 60 tx n (by first | omega | assumption) (by first | omega | assumption) (by first | omega | assumption) (by first | omega | assumption)) 1 (gdV mlX6_81 imX5_find seX5_find inX5 coX5_find) rfl hdX5_find ⟨Nat.le_of_ble_eq_true rfl, Nat.le_of_ble_eq_true rfl⟩ ⟨rfl, rfl⟩ 3 rfl rfl rfl [3, 4, 5, 6, 7, 8, 9, 10, 1, 2] [(hx, .inr (6, [.ref hr, .ref h3, .ref h4, .ref ht, .ref ha, .ref hF, .ref hR, .ref hS])), (hr, .inr (2, [.ref ar, .int (nI n)])), (ar, .inl (cC, 60, .inl (fun i => nI (tx i)))), (ht, .inr (5, [.ref tc, .ref tw, .ref tf, .ref tb, .ref tl, .ref ts, .ref tq])), (tc, .inl (cI, 1688, .inl (fun i => oN (ch i)))), (tw, .inl (cZ, 211, .inl (fun i => bI (wh i)))), (tf, .inl (cI, 211, .inl (fun i => nI (hf i)))), (tb, .inl (cI, 211, .inl (fun i => nI (hb i)))), (tl, .inl (cI, 211, .inl (fun i => nI (ln i)))), (ts, .inl (cI, 211, .inl (fun i => oN (sw i)))), (tq, .inl (cI, 211, .inl (fun i => nI (od i))))] rfl rfl [ht, tc, tw, tf, tb, tl, ts, tq, hr, ar] rfl rfl [none, some 8, some 9, some 0, some 1, some 2, some 3, some 4, some 5, some 6, some 7] rfl rfl (rest := []) rfl (Nat.le_of_ble_eq_true rfl) dX6_starting_8 ⟨Nat.zero_le _, Nat.zero_le _⟩ ?_
  refine V_istore_n x 1 [(1, .int (oN (fwk ch tx n))), (0, .ref hx)] dX6_starting_11 rfl (by decide) rfl ?_
  refine V_aload_n x 0 dX6_starting_12 rfl rfl ?_
  refine V_get x 0 6 0 hinX6 rfl rfl (by decide) flX6_14 rfl dX6_starting_13 ?_
  refine V_callVi x (c_Line_empty l D cI cZ cC cJ hr ar 60 tx n ) 0 (gdV mlX6_63 imX2_empty seX2_empty inX2 coX2_empty) rfl hdX2_empty ⟨Nat.le_of_ble_eq_true rfl, Nat.le_of_ble_eq_true rfl⟩ ⟨rfl, rfl⟩ 1 rfl rfl rfl [1, 2] [(hx, .inr (6, [.ref hr, .ref h3, .ref h4, .ref ht, .ref ha, .ref hF, .ref hR, .ref hS])), (hr, .inr (2, [.ref ar, .int (nI 0)])), (ar, .inl (cC, 60, .inl (fun i => nI (tx i)))), (ht, .inr (5, [.ref tc, .ref tw, .ref tf, .ref tb, .ref tl, .ref ts, .ref tq])), (tc, .inl (cI, 1688, .inl (fun i => oN (ch i)))), (tw, .inl (cZ, 211, .inl (fun i => bI (wh i)))), (tf, .inl (cI, 211, .inl (fun i => nI (hf i)))), (tb, .inl (cI, 211, .inl (fun i => nI (hb i)))), (tl, .inl (cI, 211, .inl (fun i => nI (ln i)))), (ts, .inl (cI, 211, .inl (fun i => oN (sw i)))), (tq, .inl (cI, 211, .inl (fun i => nI (od i))))] rfl rfl [hr, ar] rfl rfl [none, some 0, some 1] rfl rfl (rest := []) rfl (Nat.le_of_ble_eq_true rfl) dX6_starting_16 ⟨Nat.zero_le _, Nat.zero_le _⟩ ?_
  refine V_pop x dX6_starting_19 rfl ?_
  refine V_iload_n x 1 dX6_starting_20 rfl rfl ?_
  refine V_iconst (v := (-1)) x dX6_starting_21 (by decide +kernel) ?_
  refine V_icmp_neO x 29 dX6_starting_22 rfl (fun z hz => lt31 (fwk_lt hrg hz)) (fun z22 t22 => ?_) (fun f22 => ?_)
  · skip
    simp only [t22, oN_some]
    refine V_aload_n x 0 dX6_starting_29 rfl rfl ?_
    refine V_get x 0 6 3 hinX6 rfl rfl (by decide) flX6_27 rfl dX6_starting_30 ?_
    refine V_iload_n x 1 dX6_starting_33 rfl rfl ?_
    refine V_callVi x (c_heldFrom l D cI cZ cC cJ ht tc tw tf tb tl ts tq ch wh hf hb ln sw od z22 (fwk_lt hrg t22)) 1 (gdV mlX6_111 imX5_heldFrom seX5_heldFrom inX5 coX5_heldFrom) rfl hdX5_heldFrom ⟨Nat.le_of_ble_eq_true rfl, Nat.le_of_ble_eq_true rfl⟩ ⟨rfl, rfl⟩ 3 rfl rfl rfl [3, 4, 5, 6, 7, 8, 9, 10] [(hx, .inr (6, [.ref hr, .ref h3, .ref h4, .ref ht, .ref ha, .ref hF, .ref hR, .ref hS])), (hr, .inr (2, [.ref ar, .int (nI 0)])), (ar, .inl (cC, 60, .inl (fun i => nI (tx i)))), (ht, .inr (5, [.ref tc, .ref tw, .ref tf, .ref tb, .ref tl, .ref ts, .ref tq])), (tc, .inl (cI, 1688, .inl (fun i => oN (ch i)))), (tw, .inl (cZ, 211, .inl (fun i => bI (wh i)))), (tf, .inl (cI, 211, .inl (fun i => nI (hf i)))), (tb, .inl (cI, 211, .inl (fun i => nI (hb i)))), (tl, .inl (cI, 211, .inl (fun i => nI (ln i)))), (ts, .inl (cI, 211, .inl (fun i => oN (sw i)))), (tq, .inl (cI, 211, .inl (fun i => nI (od i))))] rfl rfl [ht, tc, tw, tf, tb, tl, ts, tq] rfl rfl [none, none, none, some 0, some 1, some 2, some 3, some 4, some 5, some 6, some 7] rfl rfl (rest := []) rfl (Nat.le_of_ble_eq_true rfl) dX6_starting_34 ⟨Nat.zero_le _, Nat.zero_le _⟩ ?_
    refine V.ci (x' := nI (((fwk ch tx n).map hf).getD 0)) (by first | (rw [t22]; rfl) | (rw [f22]; rfl)) ?_
    exact hret _ _ dX6_starting_37
  · skip
    simp only [f22, oN_none]
    refine V_iconst (v := nI 0) x dX6_starting_25 (by decide +kernel) ?_
    refine V_goto x 37 dX6_starting_26 rfl ?_
    refine V.ci (x' := nI (((fwk ch tx n).map hf).getD 0)) (by first | (rw [t22]; rfl) | (rw [f22]; rfl)) ?_
    exact hret _ _ dX6_starting_37
set_option maxHeartbeats 4000000 in
set_option maxRecDepth 100000 in
theorem x_alike (l : Launch) (D : va_G) (cI cZ cC cJ : ClassId) (hx hr h3 h4 ht ha hF hR hS ar tc tw tf tb tl ts tq sa sm sc sg sn ap : Nat) (tx : Nat → Nat) (n : Nat) (ch : Nat → Option Nat) (wh : Nat → Bool) (hf : Nat → Nat) (hb : Nat → Nat) (ln : Nat → Nat) (sw : Nat → Option Nat) (od : Nat → Nat) (so : Nat → Nat) (mb : Nat → Nat) (ac : Nat → Bool) (tg : Nat → Option Nat) (wn : Nat → Option Nat) (pa : Nat → Nat) (hrg : rg ch) (hn60 : n ≤ 60) (htx : ∀ i, tx i < 65536) (hso : ∀ i, so i < 211) : CI l yX6_alike wsX6_alike { frames := 3, cells := 0, slots := 0, locals := 68 } D vwCl (tys4 cI cZ cC cJ) [.ref hx] [(hx, .inr (6, [.ref hr, .ref h3, .ref h4, .ref ht, .ref ha, .ref hF, .ref hR, .ref hS])), (hr, .inr (2, [.ref ar, .int (nI n)])), (ar, .inl (cC, 60, .inl (fun i => nI (tx i)))), (ht, .inr (5, [.ref tc, .ref tw, .ref tf, .ref tb, .ref tl, .ref ts, .ref tq])), (tc, .inl (cI, 1688, .inl (fun i => oN (ch i)))), (tw, .inl (cZ, 211, .inl (fun i => bI (wh i)))), (tf, .inl (cI, 211, .inl (fun i => nI (hf i)))), (tb, .inl (cI, 211, .inl (fun i => nI (hb i)))), (tl, .inl (cI, 211, .inl (fun i => nI (ln i)))), (ts, .inl (cI, 211, .inl (fun i => oN (sw i)))), (tq, .inl (cI, 211, .inl (fun i => nI (od i)))), (ha, .inr (0, [.ref sa, .ref sm, .ref sc, .ref sg, .ref sn, .ref ap])), (sa, .inl (cI, 211, .inl (fun i => nI (so i)))), (sm, .inl (cI, 211, .inl (fun i => nI (mb i)))), (sc, .inl (cZ, 211, .inl (fun i => bI (ac i)))), (sg, .inl (cI, 1688, .inl (fun i => oN (tg i)))), (sn, .inl (cI, 8, .inl (fun i => oN (wn i)))), (ap, .inl (cI, 8, .inl (fun i => nI (pa i))))] ((oN ((fwk ch tx n).map (fun p => mb (so p))))) [(hx, .inr (6, [.ref hr, .ref h3, .ref h4, .ref ht, .ref ha, .ref hF, .ref hR, .ref hS])), (hr, .inr (2, [.ref ar, .int (nI 0)])), (ar, .inl (cC, 60, .inl (fun i => nI (tx i)))), (ht, .inr (5, [.ref tc, .ref tw, .ref tf, .ref tb, .ref tl, .ref ts, .ref tq])), (tc, .inl (cI, 1688, .inl (fun i => oN (ch i)))), (tw, .inl (cZ, 211, .inl (fun i => bI (wh i)))), (tf, .inl (cI, 211, .inl (fun i => nI (hf i)))), (tb, .inl (cI, 211, .inl (fun i => nI (hb i)))), (tl, .inl (cI, 211, .inl (fun i => nI (ln i)))), (ts, .inl (cI, 211, .inl (fun i => oN (sw i)))), (tq, .inl (cI, 211, .inl (fun i => nI (od i)))), (ha, .inr (0, [.ref sa, .ref sm, .ref sc, .ref sg, .ref sn, .ref ap])), (sa, .inl (cI, 211, .inl (fun i => nI (so i)))), (sm, .inl (cI, 211, .inl (fun i => nI (mb i)))), (sc, .inl (cZ, 211, .inl (fun i => bI (ac i)))), (sg, .inl (cI, 1688, .inl (fun i => oN (tg i)))), (sn, .inl (cI, 8, .inl (fun i => oN (wn i)))), (ap, .inl (cI, 8, .inl (fun i => nI (pa i))))] := by
  refine CI.ofV rfl (by decide +kernel) rfl (Nat.le_of_ble_eq_true rfl) ?_
  intro κ x hret
  refine V_aload_n x 0 dX6_alike_0 rfl rfl ?_
  refine V_get x 0 6 3 hinX6 rfl rfl (by decide) flX6_27 rfl dX6_alike_1 ?_
  refine V_aload_n x 0 dX6_alike_4 rfl rfl ?_
  refine V_get x 0 6 0 hinX6 rfl rfl (by decide) flX6_14 rfl dX6_alike_5 ?_
  refine V_callVi x (c_find l D cI cZ cC cJ ht tc tw tf tb tl ts tq hr ar ch wh hf hb ln sw od 60 tx n (by first | omega | assumption) (by first | omega | assumption) (by first | omega | assumption) (by first | omega | assumption)) 1 (gdV mlX6_81 imX5_find seX5_find inX5 coX5_find) rfl hdX5_find ⟨Nat.le_of_ble_eq_true rfl, Nat.le_of_ble_eq_true rfl⟩ ⟨rfl, rfl⟩ 3 rfl rfl rfl [3, 4, 5, 6, 7, 8, 9, 10, 1, 2] [(hx, .inr (6, [.ref hr, .ref h3, .ref h4, .ref ht, .ref ha, .ref hF, .ref hR, .ref hS])), (hr, .inr (2, [.ref ar, .int (nI n)])), (ar, .inl (cC, 60, .inl (fun i => nI (tx i)))), (ht, .inr (5, [.ref tc, .ref tw, .ref tf, .ref tb, .ref tl, .ref ts, .ref tq])), (tc, .inl (cI, 1688, .inl (fun i => oN (ch i)))), (tw, .inl (cZ, 211, .inl (fun i => bI (wh i)))), (tf, .inl (cI, 211, .inl (fun i => nI (hf i)))), (tb, .inl (cI, 211, .inl (fun i => nI (hb i)))), (tl, .inl (cI, 211, .inl (fun i => nI (ln i)))), (ts, .inl (cI, 211, .inl (fun i => oN (sw i)))), (tq, .inl (cI, 211, .inl (fun i => nI (od i)))), (ha, .inr (0, [.ref sa, .ref sm, .ref sc, .ref sg, .ref sn, .ref ap])), (sa, .inl (cI, 211, .inl (fun i => nI (so i)))), (sm, .inl (cI, 211, .inl (fun i => nI (mb i)))), (sc, .inl (cZ, 211, .inl (fun i => bI (ac i)))), (sg, .inl (cI, 1688, .inl (fun i => oN (tg i)))), (sn, .inl (cI, 8, .inl (fun i => oN (wn i)))), (ap, .inl (cI, 8, .inl (fun i => nI (pa i))))] rfl rfl [ht, tc, tw, tf, tb, tl, ts, tq, hr, ar] rfl rfl [none, some 8, some 9, some 0, some 1, some 2, some 3, some 4, some 5, some 6, some 7] rfl rfl (rest := []) rfl (Nat.le_of_ble_eq_true rfl) dX6_alike_8 ⟨Nat.zero_le _, Nat.zero_le _⟩ ?_
  refine V_istore_n x 1 [(1, .int (oN (fwk ch tx n))), (0, .ref hx)] dX6_alike_11 rfl (by decide) rfl ?_
  refine V_aload_n x 0 dX6_alike_12 rfl rfl ?_
  refine V_get x 0 6 0 hinX6 rfl rfl (by decide) flX6_14 rfl dX6_alike_13 ?_
  refine V_callVi x (c_Line_empty l D cI cZ cC cJ hr ar 60 tx n ) 0 (gdV mlX6_63 imX2_empty seX2_empty inX2 coX2_empty) rfl hdX2_empty ⟨Nat.le_of_ble_eq_true rfl, Nat.le_of_ble_eq_true rfl⟩ ⟨rfl, rfl⟩ 1 rfl rfl rfl [1, 2] [(hx, .inr (6, [.ref hr, .ref h3, .ref h4, .ref ht, .ref ha, .ref hF, .ref hR, .ref hS])), (hr, .inr (2, [.ref ar, .int (nI 0)])), (ar, .inl (cC, 60, .inl (fun i => nI (tx i)))), (ht, .inr (5, [.ref tc, .ref tw, .ref tf, .ref tb, .ref tl, .ref ts, .ref tq])), (tc, .inl (cI, 1688, .inl (fun i => oN (ch i)))), (tw, .inl (cZ, 211, .inl (fun i => bI (wh i)))), (tf, .inl (cI, 211, .inl (fun i => nI (hf i)))), (tb, .inl (cI, 211, .inl (fun i => nI (hb i)))), (tl, .inl (cI, 211, .inl (fun i => nI (ln i)))), (ts, .inl (cI, 211, .inl (fun i => oN (sw i)))), (tq, .inl (cI, 211, .inl (fun i => nI (od i)))), (ha, .inr (0, [.ref sa, .ref sm, .ref sc, .ref sg, .ref sn, .ref ap])), (sa, .inl (cI, 211, .inl (fun i => nI (so i)))), (sm, .inl (cI, 211, .inl (fun i => nI (mb i)))), (sc, .inl (cZ, 211, .inl (fun i => bI (ac i)))), (sg, .inl (cI, 1688, .inl (fun i => oN (tg i)))), (sn, .inl (cI, 8, .inl (fun i => oN (wn i)))), (ap, .inl (cI, 8, .inl (fun i => nI (pa i))))] rfl rfl [hr, ar] rfl rfl [none, some 0, some 1] rfl rfl (rest := []) rfl (Nat.le_of_ble_eq_true rfl) dX6_alike_16 ⟨Nat.zero_le _, Nat.zero_le _⟩ ?_
  refine V_pop x dX6_alike_19 rfl ?_
  refine V_iload_n x 1 dX6_alike_20 rfl rfl ?_
  refine V_iconst (v := (-1)) x dX6_alike_21 (by decide +kernel) ?_
  refine V_icmp_neO x 29 dX6_alike_22 rfl (fun z hz => lt31 (fwk_lt hrg hz)) (fun z22 t22 => ?_) (fun f22 => ?_)
  · skip
    simp only [t22, oN_some]
    refine V_aload_n x 0 dX6_alike_29 rfl rfl ?_
    refine V_get x 0 6 4 hinX6 rfl rfl (by decide) flX6_34 rfl dX6_alike_30 ?_
    refine V_iload_n x 1 dX6_alike_33 rfl rfl ?_
    refine V_callVi x (c_countAlike l D cI cZ cC cJ ha sa sm sc sg sn ap so mb ac tg wn pa z22 (fwk_lt hrg t22) (hso _)) 1 (gdV mlX6_128 imX0_countAlike seX0_countAlike inX0 coX0_countAlike) rfl hdX0_countAlike ⟨Nat.le_of_ble_eq_true rfl, Nat.le_of_ble_eq_true rfl⟩ ⟨rfl, rfl⟩ 11 rfl rfl rfl [11, 12, 13, 14, 15, 16, 17] [(hx, .inr (6, [.ref hr, .ref h3, .ref h4, .ref ht, .ref ha, .ref hF, .ref hR, .ref hS])), (hr, .inr (2, [.ref ar, .int (nI 0)])), (ar, .inl (cC, 60, .inl (fun i => nI (tx i)))), (ht, .inr (5, [.ref tc, .ref tw, .ref tf, .ref tb, .ref tl, .ref ts, .ref tq])), (tc, .inl (cI, 1688, .inl (fun i => oN (ch i)))), (tw, .inl (cZ, 211, .inl (fun i => bI (wh i)))), (tf, .inl (cI, 211, .inl (fun i => nI (hf i)))), (tb, .inl (cI, 211, .inl (fun i => nI (hb i)))), (tl, .inl (cI, 211, .inl (fun i => nI (ln i)))), (ts, .inl (cI, 211, .inl (fun i => oN (sw i)))), (tq, .inl (cI, 211, .inl (fun i => nI (od i)))), (ha, .inr (0, [.ref sa, .ref sm, .ref sc, .ref sg, .ref sn, .ref ap])), (sa, .inl (cI, 211, .inl (fun i => nI (so i)))), (sm, .inl (cI, 211, .inl (fun i => nI (mb i)))), (sc, .inl (cZ, 211, .inl (fun i => bI (ac i)))), (sg, .inl (cI, 1688, .inl (fun i => oN (tg i)))), (sn, .inl (cI, 8, .inl (fun i => oN (wn i)))), (ap, .inl (cI, 8, .inl (fun i => nI (pa i))))] rfl rfl [ha, sa, sm, sc, sg, sn, ap] rfl rfl [none, none, none, none, none, none, none, none, none, none, none, some 0, some 1, some 2, some 3, some 4, some 5, some 6] rfl rfl (rest := []) rfl (Nat.le_of_ble_eq_true rfl) dX6_alike_34 ⟨Nat.zero_le _, Nat.zero_le _⟩ ?_
    refine V.ci (x' := oN ((fwk ch tx n).map (fun p => mb (so p)))) (by first | (rw [t22]; rfl) | (rw [f22]; rfl)) ?_
    exact hret _ _ dX6_alike_37
  · skip
    simp only [f22, oN_none]
    refine V_iconst (v := (-1)) x dX6_alike_25 (by decide +kernel) ?_
    refine V_goto x 37 dX6_alike_26 rfl ?_
    refine V.ci (x' := oN ((fwk ch tx n).map (fun p => mb (so p)))) (by first | (rw [t22]; rfl) | (rw [f22]; rfl)) ?_
    exact hret _ _ dX6_alike_37
set_option maxHeartbeats 4000000 in
set_option maxRecDepth 100000 in
theorem x_states (l : Launch) (D : va_G) (cI cZ cC cJ : ClassId) (hx hr h3 h4 ht ha hF hR hS sa sm sc sg sn ap : Nat) (so : Nat → Nat) (mb : Nat → Nat) (ac : Nat → Bool) (tg : Nat → Option Nat) (wn : Nat → Option Nat) (pa : Nat → Nat) (hmb : ∀ i, mb i < 1000) : CI l yX6_states wsX6_states { frames := 1, cells := 0, slots := 0, locals := 22 } D vwCl (tys4 cI cZ cC cJ) [.ref hx] [(hx, .inr (6, [.ref hr, .ref h3, .ref h4, .ref ht, .ref ha, .ref hF, .ref hR, .ref hS])), (ha, .inr (0, [.ref sa, .ref sm, .ref sc, .ref sg, .ref sn, .ref ap])), (sa, .inl (cI, 211, .inl (fun i => nI (so i)))), (sm, .inl (cI, 211, .inl (fun i => nI (mb i)))), (sc, .inl (cZ, 211, .inl (fun i => bI (ac i)))), (sg, .inl (cI, 1688, .inl (fun i => oN (tg i)))), (sn, .inl (cI, 8, .inl (fun i => oN (wn i)))), (ap, .inl (cI, 8, .inl (fun i => nI (pa i))))] ((nI (cnz mb 211))) [(hx, .inr (6, [.ref hr, .ref h3, .ref h4, .ref ht, .ref ha, .ref hF, .ref hR, .ref hS])), (ha, .inr (0, [.ref sa, .ref sm, .ref sc, .ref sg, .ref sn, .ref ap])), (sa, .inl (cI, 211, .inl (fun i => nI (so i)))), (sm, .inl (cI, 211, .inl (fun i => nI (mb i)))), (sc, .inl (cZ, 211, .inl (fun i => bI (ac i)))), (sg, .inl (cI, 1688, .inl (fun i => oN (tg i)))), (sn, .inl (cI, 8, .inl (fun i => oN (wn i)))), (ap, .inl (cI, 8, .inl (fun i => nI (pa i))))] := by
  refine CI.ofV rfl (by decide +kernel) rfl (Nat.le_of_ble_eq_true rfl) ?_
  intro κ x hret
  refine V_aload_n x 0 dX6_states_0 rfl rfl ?_
  refine V_get x 0 6 4 hinX6 rfl rfl (by decide) flX6_34 rfl dX6_states_1 ?_
  refine V_callVi x (c_countStates l D cI cZ cC cJ ha sa sm sc sg sn ap so mb ac tg wn pa (by first | omega | assumption)) 0 (gdV mlX6_122 imX0_countStates seX0_countStates inX0 coX0_countStates) rfl hdX0_countStates ⟨Nat.le_of_ble_eq_true rfl, Nat.le_of_ble_eq_true rfl⟩ ⟨rfl, rfl⟩ 1 rfl rfl rfl [1, 2, 3, 4, 5, 6, 7] [(hx, .inr (6, [.ref hr, .ref h3, .ref h4, .ref ht, .ref ha, .ref hF, .ref hR, .ref hS])), (ha, .inr (0, [.ref sa, .ref sm, .ref sc, .ref sg, .ref sn, .ref ap])), (sa, .inl (cI, 211, .inl (fun i => nI (so i)))), (sm, .inl (cI, 211, .inl (fun i => nI (mb i)))), (sc, .inl (cZ, 211, .inl (fun i => bI (ac i)))), (sg, .inl (cI, 1688, .inl (fun i => oN (tg i)))), (sn, .inl (cI, 8, .inl (fun i => oN (wn i)))), (ap, .inl (cI, 8, .inl (fun i => nI (pa i))))] rfl rfl [ha, sa, sm, sc, sg, sn, ap] rfl rfl [none, some 0, some 1, some 2, some 3, some 4, some 5, some 6] rfl rfl (rest := []) rfl (Nat.le_of_ble_eq_true rfl) dX6_states_4 ⟨Nat.zero_le _, Nat.zero_le _⟩ ?_
  exact hret _ _ dX6_states_7
set_option maxHeartbeats 4000000 in
set_option maxRecDepth 100000 in
theorem x_edges (l : Launch) (D : va_G) (cI cZ cC cJ : ClassId) (hx hr h3 h4 ht ha hF hR hS sa sm sc sg sn ap : Nat) (so : Nat → Nat) (mb : Nat → Nat) (ac : Nat → Bool) (tg : Nat → Option Nat) (wn : Nat → Option Nat) (pa : Nat → Nat) (hmb : ∀ i, mb i < 1000) (htg : rg tg) : CI l yX6_edges wsX6_edges { frames := 2, cells := 0, slots := 0, locals := 45 } D vwCl (tys4 cI cZ cC cJ) [.ref hx] [(hx, .inr (6, [.ref hr, .ref h3, .ref h4, .ref ht, .ref ha, .ref hF, .ref hR, .ref hS])), (ha, .inr (0, [.ref sa, .ref sm, .ref sc, .ref sg, .ref sn, .ref ap])), (sa, .inl (cI, 211, .inl (fun i => nI (so i)))), (sm, .inl (cI, 211, .inl (fun i => nI (mb i)))), (sc, .inl (cZ, 211, .inl (fun i => bI (ac i)))), (sg, .inl (cI, 1688, .inl (fun i => oN (tg i)))), (sn, .inl (cI, 8, .inl (fun i => oN (wn i)))), (ap, .inl (cI, 8, .inl (fun i => nI (pa i))))] ((nI (ced mb tg 211))) [(hx, .inr (6, [.ref hr, .ref h3, .ref h4, .ref ht, .ref ha, .ref hF, .ref hR, .ref hS])), (ha, .inr (0, [.ref sa, .ref sm, .ref sc, .ref sg, .ref sn, .ref ap])), (sa, .inl (cI, 211, .inl (fun i => nI (so i)))), (sm, .inl (cI, 211, .inl (fun i => nI (mb i)))), (sc, .inl (cZ, 211, .inl (fun i => bI (ac i)))), (sg, .inl (cI, 1688, .inl (fun i => oN (tg i)))), (sn, .inl (cI, 8, .inl (fun i => oN (wn i)))), (ap, .inl (cI, 8, .inl (fun i => nI (pa i))))] := by
  refine CI.ofV rfl (by decide +kernel) rfl (Nat.le_of_ble_eq_true rfl) ?_
  intro κ x hret
  refine V_aload_n x 0 dX6_edges_0 rfl rfl ?_
  refine V_get x 0 6 4 hinX6 rfl rfl (by decide) flX6_34 rfl dX6_edges_1 ?_
  refine V_callVi x (c_countEdges l D cI cZ cC cJ ha sa sm sc sg sn ap so mb ac tg wn pa (by first | omega | assumption) (by first | omega | assumption)) 0 (gdV mlX6_125 imX0_countEdges seX0_countEdges inX0 coX0_countEdges) rfl hdX0_countEdges ⟨Nat.le_of_ble_eq_true rfl, Nat.le_of_ble_eq_true rfl⟩ ⟨rfl, rfl⟩ 1 rfl rfl rfl [1, 2, 3, 4, 5, 6, 7] [(hx, .inr (6, [.ref hr, .ref h3, .ref h4, .ref ht, .ref ha, .ref hF, .ref hR, .ref hS])), (ha, .inr (0, [.ref sa, .ref sm, .ref sc, .ref sg, .ref sn, .ref ap])), (sa, .inl (cI, 211, .inl (fun i => nI (so i)))), (sm, .inl (cI, 211, .inl (fun i => nI (mb i)))), (sc, .inl (cZ, 211, .inl (fun i => bI (ac i)))), (sg, .inl (cI, 1688, .inl (fun i => oN (tg i)))), (sn, .inl (cI, 8, .inl (fun i => oN (wn i)))), (ap, .inl (cI, 8, .inl (fun i => nI (pa i))))] rfl rfl [ha, sa, sm, sc, sg, sn, ap] rfl rfl [none, some 0, some 1, some 2, some 3, some 4, some 5, some 6] rfl rfl (rest := []) rfl (Nat.le_of_ble_eq_true rfl) dX6_edges_4 ⟨Nat.zero_le _, Nat.zero_le _⟩ ?_
  exact hret _ _ dX6_edges_7
set_option maxHeartbeats 4000000 in
set_option maxRecDepth 100000 in
theorem x_splits (l : Launch) (D : va_G) (cI cZ cC cJ : ClassId) (hx hr h3 h4 ht ha hF hR hS ar tc tw tf tb tl ts tq sw1 sw2 sw3 : Nat) (tx : Nat → Nat) (n : Nat) (ch : Nat → Option Nat) (wh : Nat → Bool) (hf : Nat → Nat) (hb : Nat → Nat) (ln : Nat → Nat) (sw : Nat → Option Nat) (od : Nat → Nat) (wy : Nat → Int64) (fw : Nat → Option Nat) (fe : Nat → Nat) (hrg : rg ch) (hn60 : n ≤ 60) (htx : ∀ i, tx i < 65536) : CL l yX6_splits wsX6_splits { frames := 4, cells := 0, slots := 0, locals := 93 } D vwCl (tys4 cI cZ cC cJ) [.ref hx] [(hx, .inr (6, [.ref hr, .ref h3, .ref h4, .ref ht, .ref ha, .ref hF, .ref hR, .ref hS])), (hr, .inr (2, [.ref ar, .int (nI n)])), (ar, .inl (cC, 60, .inl (fun i => nI (tx i)))), (ht, .inr (5, [.ref tc, .ref tw, .ref tf, .ref tb, .ref tl, .ref ts, .ref tq])), (tc, .inl (cI, 1688, .inl (fun i => oN (ch i)))), (tw, .inl (cZ, 211, .inl (fun i => bI (wh i)))), (tf, .inl (cI, 211, .inl (fun i => nI (hf i)))), (tb, .inl (cI, 211, .inl (fun i => nI (hb i)))), (tl, .inl (cI, 211, .inl (fun i => nI (ln i)))), (ts, .inl (cI, 211, .inl (fun i => oN (sw i)))), (tq, .inl (cI, 211, .inl (fun i => nI (od i)))), (hS, .inr (4, [.ref sw1, .ref sw2, .ref sw3])), (sw1, .inl (cJ, 61, .inr (.inl wy))), (sw2, .inl (cI, 61, .inl (fun i => oN (fw i)))), (sw3, .inl (cI, 61, .inl (fun i => nI (fe i))))] ((cnt ch wh tx n wy n 0)) [(hx, .inr (6, [.ref hr, .ref h3, .ref h4, .ref ht, .ref ha, .ref hF, .ref hR, .ref hS])), (hr, .inr (2, [.ref ar, .int (nI 0)])), (ar, .inl (cC, 60, .inl (fun i => nI (tx i)))), (ht, .inr (5, [.ref tc, .ref tw, .ref tf, .ref tb, .ref tl, .ref ts, .ref tq])), (tc, .inl (cI, 1688, .inl (fun i => oN (ch i)))), (tw, .inl (cZ, 211, .inl (fun i => bI (wh i)))), (tf, .inl (cI, 211, .inl (fun i => nI (hf i)))), (tb, .inl (cI, 211, .inl (fun i => nI (hb i)))), (tl, .inl (cI, 211, .inl (fun i => nI (ln i)))), (ts, .inl (cI, 211, .inl (fun i => oN (sw i)))), (tq, .inl (cI, 211, .inl (fun i => nI (od i)))), (hS, .inr (4, [.ref sw1, .ref sw2, .ref sw3])), (sw1, .inl (cJ, 61, .inr (.inl (cnt ch wh tx n wy n)))), (sw2, .inl (cI, 61, .inl (fun i => oN (fw i)))), (sw3, .inl (cI, 61, .inl (fun i => nI (fe i))))] := by
  refine CL.ofV (by decide +kernel) rfl (Nat.le_of_ble_eq_true rfl) ?_
  intro κ x hret
  refine V_aload_n x 0 dX6_splits_0 rfl rfl ?_
  refine V_get x 0 6 7 hinX6 rfl rfl (by decide) flX6_55 rfl dX6_splits_1 ?_
  refine V_aload_n x 0 dX6_splits_4 rfl rfl ?_
  refine V_get x 0 6 0 hinX6 rfl rfl (by decide) flX6_14 rfl dX6_splits_5 ?_
  refine V_aload_n x 0 dX6_splits_8 rfl rfl ?_
  refine V_get x 0 6 3 hinX6 rfl rfl (by decide) flX6_27 rfl dX6_splits_9 ?_
  refine V_callVl x (c_count l D cI cZ cC cJ hS sw1 sw2 sw3 hr ar ht tc tw tf tb tl ts tq wy fw fe 60 tx n ch wh hf hb ln sw od (by first | omega | assumption) (by first | omega | assumption) (by first | omega | assumption) (by first | omega | assumption) (by first | omega | assumption)) 2 (gdV mlX6_162 imX4_count seX4_count inX4 coX4_count) rfl hdX4_count ⟨Nat.le_of_ble_eq_true rfl, Nat.le_of_ble_eq_true rfl⟩ ⟨rfl, rfl⟩ 11 rfl rfl rfl [11, 12, 13, 14, 1, 2, 3, 4, 5, 6, 7, 8, 9, 10] [(hx, .inr (6, [.ref hr, .ref h3, .ref h4, .ref ht, .ref ha, .ref hF, .ref hR, .ref hS])), (hr, .inr (2, [.ref ar, .int (nI n)])), (ar, .inl (cC, 60, .inl (fun i => nI (tx i)))), (ht, .inr (5, [.ref tc, .ref tw, .ref tf, .ref tb, .ref tl, .ref ts, .ref tq])), (tc, .inl (cI, 1688, .inl (fun i => oN (ch i)))), (tw, .inl (cZ, 211, .inl (fun i => bI (wh i)))), (tf, .inl (cI, 211, .inl (fun i => nI (hf i)))), (tb, .inl (cI, 211, .inl (fun i => nI (hb i)))), (tl, .inl (cI, 211, .inl (fun i => nI (ln i)))), (ts, .inl (cI, 211, .inl (fun i => oN (sw i)))), (tq, .inl (cI, 211, .inl (fun i => nI (od i)))), (hS, .inr (4, [.ref sw1, .ref sw2, .ref sw3])), (sw1, .inl (cJ, 61, .inr (.inl (cnt ch wh tx n wy n)))), (sw2, .inl (cI, 61, .inl (fun i => oN (fw i)))), (sw3, .inl (cI, 61, .inl (fun i => nI (fe i))))] rfl rfl [hS, sw1, sw2, sw3, hr, ar, ht, tc, tw, tf, tb, tl, ts, tq] rfl rfl [none, some 4, some 5, some 6, some 7, some 8, some 9, some 10, some 11, some 12, some 13, some 0, some 1, some 2, some 3] rfl rfl (rest := []) rfl (Nat.le_of_ble_eq_true rfl) dX6_splits_12 ⟨Nat.zero_le _, Nat.zero_le _⟩ ?_
  refine V_lstore_n x 1 [(1, .long (cnt ch wh tx n wy n 0)), (0, .ref hx)] dX6_splits_15 rfl (by decide) rfl ?_
  refine V_aload_n x 0 dX6_splits_16 rfl rfl ?_
  refine V_get x 0 6 0 hinX6 rfl rfl (by decide) flX6_14 rfl dX6_splits_17 ?_
  refine V_callVi x (c_Line_empty l D cI cZ cC cJ hr ar 60 tx n ) 0 (gdV mlX6_63 imX2_empty seX2_empty inX2 coX2_empty) rfl hdX2_empty ⟨Nat.le_of_ble_eq_true rfl, Nat.le_of_ble_eq_true rfl⟩ ⟨rfl, rfl⟩ 1 rfl rfl rfl [1, 2] [(hx, .inr (6, [.ref hr, .ref h3, .ref h4, .ref ht, .ref ha, .ref hF, .ref hR, .ref hS])), (hr, .inr (2, [.ref ar, .int (nI 0)])), (ar, .inl (cC, 60, .inl (fun i => nI (tx i)))), (ht, .inr (5, [.ref tc, .ref tw, .ref tf, .ref tb, .ref tl, .ref ts, .ref tq])), (tc, .inl (cI, 1688, .inl (fun i => oN (ch i)))), (tw, .inl (cZ, 211, .inl (fun i => bI (wh i)))), (tf, .inl (cI, 211, .inl (fun i => nI (hf i)))), (tb, .inl (cI, 211, .inl (fun i => nI (hb i)))), (tl, .inl (cI, 211, .inl (fun i => nI (ln i)))), (ts, .inl (cI, 211, .inl (fun i => oN (sw i)))), (tq, .inl (cI, 211, .inl (fun i => nI (od i)))), (hS, .inr (4, [.ref sw1, .ref sw2, .ref sw3])), (sw1, .inl (cJ, 61, .inr (.inl (cnt ch wh tx n wy n)))), (sw2, .inl (cI, 61, .inl (fun i => oN (fw i)))), (sw3, .inl (cI, 61, .inl (fun i => nI (fe i))))] rfl rfl [hr, ar] rfl rfl [none, some 0, some 1] rfl rfl (rest := []) rfl (Nat.le_of_ble_eq_true rfl) dX6_splits_20 ⟨Nat.zero_le _, Nat.zero_le _⟩ ?_
  refine V_pop x dX6_splits_23 rfl ?_
  refine V_lload_n x 1 dX6_splits_24 rfl rfl ?_
  exact hret _ _ dX6_splits_25
