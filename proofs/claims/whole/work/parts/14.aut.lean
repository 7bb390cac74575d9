/-! contracts, laid by prog/mk.py -/
set_option maxHeartbeats 4000000 in
set_option maxRecDepth 100000 in
theorem c_countStates (l : Launch) (D : va_G) (cI cZ cC cJ : ClassId) (ha sa sm sc sg sn ap : Nat) (so : Nat → Nat) (mb : Nat → Nat) (ac : Nat → Bool) (tg : Nat → Option Nat) (wn : Nat → Option Nat) (pa : Nat → Nat) (hmb : ∀ i, mb i < 1000) : CI l yX0_countStates wsX0_countStates { frames := 0, cells := 0, slots := 0, locals := 0 } D vwCl (tys4 cI cZ cC cJ) [.ref ha] [(ha, .inr (0, [.ref sa, .ref sm, .ref sc, .ref sg, .ref sn, .ref ap])), (sa, .inl (cI, 211, .inl (fun i => nI (so i)))), (sm, .inl (cI, 211, .inl (fun i => nI (mb i)))), (sc, .inl (cZ, 211, .inl (fun i => bI (ac i)))), (sg, .inl (cI, 1688, .inl (fun i => oN (tg i)))), (sn, .inl (cI, 8, .inl (fun i => oN (wn i)))), (ap, .inl (cI, 8, .inl (fun i => nI (pa i))))] ((nI (cnz mb 211))) [(ha, .inr (0, [.ref sa, .ref sm, .ref sc, .ref sg, .ref sn, .ref ap])), (sa, .inl (cI, 211, .inl (fun i => nI (so i)))), (sm, .inl (cI, 211, .inl (fun i => nI (mb i)))), (sc, .inl (cZ, 211, .inl (fun i => bI (ac i)))), (sg, .inl (cI, 1688, .inl (fun i => oN (tg i)))), (sn, .inl (cI, 8, .inl (fun i => oN (wn i)))), (ap, .inl (cI, 8, .inl (fun i => nI (pa i))))] := by
  refine CI.ofV rfl (by decide +kernel) rfl (Nat.le_of_ble_eq_true rfl) ?_
  intro κ x hret
  refine V_iconst (v := nI 0) x dX0_countStates_0 (by decide +kernel) ?_
  refine V_istore_n x 1 [(1, .int (nI 0)), (0, .ref ha)] dX0_countStates_1 rfl (by decide) rfl ?_
  refine V_iconst (v := nI 0) x dX0_countStates_2 (by decide +kernel) ?_
  refine V_istore_n x 2 [(2, .int (nI 0)), (1, .int (nI 0)), (0, .ref ha)] dX0_countStates_3 rfl (by decide) rfl ?_
  have L4 : ∀ (k4 : Nat) (k : Nat) (c : Nat) (hk : k ≤ 211) (e1 : cnz mb k = c) (hk4 : 211 - k = k4), V κ 0 0 [(ha, .inr (0, [.ref sa, .ref sm, .ref sc, .ref sg, .ref sn, .ref ap])), (sa, .inl (cI, 211, .inl (fun i => nI (so i)))), (sm, .inl (cI, 211, .inl (fun i => nI (mb i)))), (sc, .inl (cZ, 211, .inl (fun i => bI (ac i)))), (sg, .inl (cI, 1688, .inl (fun i => oN (tg i)))), (sn, .inl (cI, 8, .inl (fun i => oN (wn i)))), (ap, .inl (cI, 8, .inl (fun i => nI (pa i))))] 4 [(0, .ref ha), (1, .int (nI c)), (2, .int (nI k))] [] := by
    intro k4
    induction k4 using Nat.strongRecOn with
    | ind k4 ih4 =>
      intro k c hk e1 hk4
      refine V_iload_n x 2 dX0_countStates_4 rfl rfl ?_
      refine V_sipush (v := nI 211) x dX0_countStates_5 (by decide +kernel) ?_
      refine V_icmp_geN x 29 dX0_countStates_8 rfl (fun t8 => ?_) (fun f8 => ?_)
      · skip
        refine V_iload_n x 1 dX0_countStates_29 rfl rfl ?_
        refine V.ci (x' := nI (cnz mb 211)) (by rw [← e1, show k = 211 by omega]) ?_
        exact hret _ _ dX0_countStates_30
      · skip
        refine V_aload_n x 0 dX0_countStates_11 rfl rfl ?_
        refine V_get x 0 0 1 hinX0 rfl rfl (by decide) flX0_15 rfl dX0_countStates_12 ?_
        refine V_iload_n x 2 dX0_countStates_15 rfl rfl ?_
        refine V_iald x 2 0 rfl rfl dX0_countStates_16 (by omega) (by omega) ?_
        refine V_if_eqN x 23 dX0_countStates_17 rfl (fun t17 => ?_) (fun f17 => ?_) (by have := hmb k; omega)
        · skip
          refine V_iinc x 2 2 [(2, .int (nI (k + 1))), (0, .ref ha), (1, .int (nI c))] dX0_countStates_23 rfl (iinc_1 _) (by decide) rfl ?_
          refine V_goto x 4 dX0_countStates_26 rfl ?_
          refine V.sub [1, 2, 0] (lv' := [(0, .ref ha), (1, .int (nI c)), (2, .int (nI ((k + 1))))]) rfl ?_
          exact ih4 (211 - (k + 1)) (by omega) (k + 1) c (by omega) (by rw [cnz, e1]; first | (rw [if_pos t17]; done) | (rw [if_neg (by omega)])) rfl
        · skip
          refine V_iinc x 1 1 [(1, .int (nI (c + 1))), (0, .ref ha), (2, .int (nI k))] dX0_countStates_20 rfl (iinc_1 _) (by decide) rfl ?_
          refine V_iinc x 2 2 [(2, .int (nI (k + 1))), (1, .int (nI (c + 1))), (0, .ref ha)] dX0_countStates_23 rfl (iinc_1 _) (by decide) rfl ?_
          refine V_goto x 4 dX0_countStates_26 rfl ?_
          refine V.sub [2, 1, 0] (lv' := [(0, .ref ha), (1, .int (nI ((c + 1)))), (2, .int (nI ((k + 1))))]) rfl ?_
          exact ih4 (211 - (k + 1)) (by omega) (k + 1) (c + 1) (by omega) (by rw [cnz, e1]; first | (rw [if_pos t17]; done) | (rw [if_neg (by omega)])) rfl
  refine V.sub [2, 1, 0] (lv' := [(0, .ref ha), (1, .int (nI 0)), (2, .int (nI 0))]) rfl ?_
  exact L4 _ 0 0 (by omega) rfl rfl
set_option maxHeartbeats 4000000 in
set_option maxRecDepth 100000 in
theorem c_countEdgesFrom (l : Launch) (D : va_G) (cI cZ cC cJ : ClassId) (ha sa sm sc sg sn ap : Nat) (so : Nat → Nat) (mb : Nat → Nat) (ac : Nat → Bool) (tg : Nat → Option Nat) (wn : Nat → Option Nat) (pa : Nat → Nat) (s : Nat) (htg : rg tg) (hs : s < 211) : CI l yX0_countEdgesFrom wsX0_countEdgesFrom { frames := 0, cells := 0, slots := 0, locals := 0 } D vwCl (tys4 cI cZ cC cJ) [.ref ha, .int (nI s)] [(ha, .inr (0, [.ref sa, .ref sm, .ref sc, .ref sg, .ref sn, .ref ap])), (sa, .inl (cI, 211, .inl (fun i => nI (so i)))), (sm, .inl (cI, 211, .inl (fun i => nI (mb i)))), (sc, .inl (cZ, 211, .inl (fun i => bI (ac i)))), (sg, .inl (cI, 1688, .inl (fun i => oN (tg i)))), (sn, .inl (cI, 8, .inl (fun i => oN (wn i)))), (ap, .inl (cI, 8, .inl (fun i => nI (pa i))))] ((nI (cef tg s 8))) [(ha, .inr (0, [.ref sa, .ref sm, .ref sc, .ref sg, .ref sn, .ref ap])), (sa, .inl (cI, 211, .inl (fun i => nI (so i)))), (sm, .inl (cI, 211, .inl (fun i => nI (mb i)))), (sc, .inl (cZ, 211, .inl (fun i => bI (ac i)))), (sg, .inl (cI, 1688, .inl (fun i => oN (tg i)))), (sn, .inl (cI, 8, .inl (fun i => oN (wn i)))), (ap, .inl (cI, 8, .inl (fun i => nI (pa i))))] := by
  refine CI.ofV rfl (by decide +kernel) rfl (Nat.le_of_ble_eq_true rfl) ?_
  intro κ x hret
  refine V_iconst (v := nI 0) x dX0_countEdgesFrom_0 (by decide +kernel) ?_
  refine V_istore_n x 2 [(2, .int (nI 0)), (0, .ref ha), (1, .int (nI s))] dX0_countEdgesFrom_1 rfl (by decide) rfl ?_
  refine V_iconst (v := nI 0) x dX0_countEdgesFrom_2 (by decide +kernel) ?_
  refine V_istore_n x 3 [(3, .int (nI 0)), (2, .int (nI 0)), (0, .ref ha), (1, .int (nI s))] dX0_countEdgesFrom_3 rfl (by decide) rfl ?_
  have L4 : ∀ (k4 : Nat) (k : Nat) (c : Nat) (hk : k ≤ 8) (e1 : cef tg s k = c) (hk4 : 8 - k = k4), V κ 0 0 [(ha, .inr (0, [.ref sa, .ref sm, .ref sc, .ref sg, .ref sn, .ref ap])), (sa, .inl (cI, 211, .inl (fun i => nI (so i)))), (sm, .inl (cI, 211, .inl (fun i => nI (mb i)))), (sc, .inl (cZ, 211, .inl (fun i => bI (ac i)))), (sg, .inl (cI, 1688, .inl (fun i => oN (tg i)))), (sn, .inl (cI, 8, .inl (fun i => oN (wn i)))), (ap, .inl (cI, 8, .inl (fun i => nI (pa i))))] 4 [(0, .ref ha), (1, .int (nI s)), (2, .int (nI c)), (3, .int (nI k))] [] := by
    intro k4
    induction k4 using Nat.strongRecOn with
    | ind k4 ih4 =>
      intro k c hk e1 hk4
      refine V_iload_n x 3 dX0_countEdgesFrom_4 rfl rfl ?_
      refine V_bipush (v := nI 8) x dX0_countEdgesFrom_5 (by decide +kernel) ?_
      refine V_icmp_geN x 34 dX0_countEdgesFrom_7 rfl (fun t7 => ?_) (fun f7 => ?_)
      · skip
        refine V_iload_n x 2 dX0_countEdgesFrom_34 rfl rfl ?_
        refine V.ci (x' := nI (cef tg s 8)) (by rw [← e1, show k = 8 by omega]) ?_
        exact hret _ _ dX0_countEdgesFrom_35
      · skip
        refine V_aload_n x 0 dX0_countEdgesFrom_10 rfl rfl ?_
        refine V_get x 0 0 3 hinX0 rfl rfl (by decide) flX0_22 rfl dX0_countEdgesFrom_11 ?_
        refine V_iload_n x 1 dX0_countEdgesFrom_14 rfl rfl ?_
        refine V_bipush (v := nI 8) x dX0_countEdgesFrom_15 (by decide +kernel) ?_
        refine V_imul x (nI (s * 8)) dX0_countEdgesFrom_17 (pk_mul _ _) ?_
        refine V_iload_n x 3 dX0_countEdgesFrom_18 rfl rfl ?_
        refine V_iadd x (nI ((s * 8) + k)) dX0_countEdgesFrom_19 (nI_add _ _) ?_
        refine V_iald x 4 0 rfl rfl dX0_countEdgesFrom_20 (by omega) (by omega) ?_
        refine V_iconst (v := (-1)) x dX0_countEdgesFrom_21 (by decide +kernel) ?_
        refine V_icmp_eqO x 28 dX0_countEdgesFrom_22 rfl (fun z hz => lt31 (htg _ _ hz)) (fun t22 => ?_) (fun z22 f22 => ?_)
        · skip
          refine V_iinc x 3 3 [(3, .int (nI (k + 1))), (0, .ref ha), (1, .int (nI s)), (2, .int (nI c))] dX0_countEdgesFrom_28 rfl (iinc_1 _) (by decide) rfl ?_
          refine V_goto x 4 dX0_countEdgesFrom_31 rfl ?_
          refine V.sub [1, 2, 3, 0] (lv' := [(0, .ref ha), (1, .int (nI s)), (2, .int (nI c)), (3, .int (nI ((k + 1))))]) rfl ?_
          exact ih4 (8 - (k + 1)) (by omega) (k + 1) c (by omega) (by rw [cef, e1]; first | (rw [t22]; done) | (rw [f22])) rfl
        · skip
          refine V_iinc x 2 2 [(2, .int (nI (c + 1))), (0, .ref ha), (1, .int (nI s)), (3, .int (nI k))] dX0_countEdgesFrom_25 rfl (iinc_1 _) (by decide) rfl ?_
          refine V_iinc x 3 3 [(3, .int (nI (k + 1))), (2, .int (nI (c + 1))), (0, .ref ha), (1, .int (nI s))] dX0_countEdgesFrom_28 rfl (iinc_1 _) (by decide) rfl ?_
          refine V_goto x 4 dX0_countEdgesFrom_31 rfl ?_
          refine V.sub [2, 3, 1, 0] (lv' := [(0, .ref ha), (1, .int (nI s)), (2, .int (nI ((c + 1)))), (3, .int (nI ((k + 1))))]) rfl ?_
          exact ih4 (8 - (k + 1)) (by omega) (k + 1) (c + 1) (by omega) (by rw [cef, e1]; first | (rw [t22]; done) | (rw [f22])) rfl
  refine V.sub [2, 3, 1, 0] (lv' := [(0, .ref ha), (1, .int (nI s)), (2, .int (nI 0)), (3, .int (nI 0))]) rfl ?_
  exact L4 _ 0 0 (by omega) rfl rfl
set_option maxHeartbeats 4000000 in
set_option maxRecDepth 100000 in
theorem c_countEdges (l : Launch) (D : va_G) (cI cZ cC cJ : ClassId) (ha sa sm sc sg sn ap : Nat) (so : Nat → Nat) (mb : Nat → Nat) (ac : Nat → Bool) (tg : Nat → Option Nat) (wn : Nat → Option Nat) (pa : Nat → Nat) (hmb : ∀ i, mb i < 1000) (htg : rg tg) : CI l yX0_countEdges wsX0_countEdges { frames := 1, cells := 0, slots := 0, locals := 23 } D vwCl (tys4 cI cZ cC cJ) [.ref ha] [(ha, .inr (0, [.ref sa, .ref sm, .ref sc, .ref sg, .ref sn, .ref ap])), (sa, .inl (cI, 211, .inl (fun i => nI (so i)))), (sm, .inl (cI, 211, .inl (fun i => nI (mb i)))), (sc, .inl (cZ, 211, .inl (fun i => bI (ac i)))), (sg, .inl (cI, 1688, .inl (fun i => oN (tg i)))), (sn, .inl (cI, 8, .inl (fun i => oN (wn i)))), (ap, .inl (cI, 8, .inl (fun i => nI (pa i))))] ((nI (ced mb tg 211))) [(ha, .inr (0, [.ref sa, .ref sm, .ref sc, .ref sg, .ref sn, .ref ap])), (sa, .inl (cI, 211, .inl (fun i => nI (so i)))), (sm, .inl (cI, 211, .inl (fun i => nI (mb i)))), (sc, .inl (cZ, 211, .inl (fun i => bI (ac i)))), (sg, .inl (cI, 1688, .inl (fun i => oN (tg i)))), (sn, .inl (cI, 8, .inl (fun i => oN (wn i)))), (ap, .inl (cI, 8, .inl (fun i => nI (pa i))))] := by
  refine CI.ofV rfl (by decide +kernel) rfl (Nat.le_of_ble_eq_true rfl) ?_
  intro κ x hret
  refine V_iconst (v := nI 0) x dX0_countEdges_0 (by decide +kernel) ?_
  refine V_istore_n x 1 [(1, .int (nI 0)), (0, .ref ha)] dX0_countEdges_1 rfl (by decide) rfl ?_
  refine V_iconst (v := nI 0) x dX0_countEdges_2 (by decide +kernel) ?_
  refine V_istore_n x 2 [(2, .int (nI 0)), (1, .int (nI 0)), (0, .ref ha)] dX0_countEdges_3 rfl (by decide) rfl ?_
  have L4 : ∀ (k4 : Nat) (k : Nat) (c : Nat) (hk : k ≤ 211) (e1 : ced mb tg k = c) (hk4 : 211 - k = k4), V κ 0 0 [(ha, .inr (0, [.ref sa, .ref sm, .ref sc, .ref sg, .ref sn, .ref ap])), (sa, .inl (cI, 211, .inl (fun i => nI (so i)))), (sm, .inl (cI, 211, .inl (fun i => nI (mb i)))), (sc, .inl (cZ, 211, .inl (fun i => bI (ac i)))), (sg, .inl (cI, 1688, .inl (fun i => oN (tg i)))), (sn, .inl (cI, 8, .inl (fun i => oN (wn i)))), (ap, .inl (cI, 8, .inl (fun i => nI (pa i))))] 4 [(0, .ref ha), (1, .int (nI c)), (2, .int (nI k))] [] := by
    intro k4
    induction k4 using Nat.strongRecOn with
    | ind k4 ih4 =>
      intro k c hk e1 hk4
      refine V_iload_n x 2 dX0_countEdges_4 rfl rfl ?_
      refine V_sipush (v := nI 211) x dX0_countEdges_5 (by decide +kernel) ?_
      refine V_icmp_geN x 34 dX0_countEdges_8 rfl (fun t8 => ?_) (fun f8 => ?_)
      · skip
        refine V_iload_n x 1 dX0_countEdges_34 rfl rfl ?_
        refine V.ci (x' := nI (ced mb tg 211)) (by rw [← e1, show k = 211 by omega]) ?_
        exact hret _ _ dX0_countEdges_35
      · skip
        refine V_aload_n x 0 dX0_countEdges_11 rfl rfl ?_
        refine V_get x 0 0 1 hinX0 rfl rfl (by decide) flX0_15 rfl dX0_countEdges_12 ?_
        refine V_iload_n x 2 dX0_countEdges_15 rfl rfl ?_
        refine V_iald x 2 0 rfl rfl dX0_countEdges_16 (by omega) (by omega) ?_
        refine V_if_eqN x 28 dX0_countEdges_17 rfl (fun t17 => ?_) (fun f17 => ?_) (by have := hmb k; omega)
        · skip
          refine V_iinc x 2 2 [(2, .int (nI (k + 1))), (0, .ref ha), (1, .int (nI c))] dX0_countEdges_28 rfl (iinc_1 _) (by decide) rfl ?_
          refine V_goto x 4 dX0_countEdges_31 rfl ?_
          refine V.sub [1, 2, 0] (lv' := [(0, .ref ha), (1, .int (nI c)), (2, .int (nI ((k + 1))))]) rfl ?_
          exact ih4 (211 - (k + 1)) (by omega) (k + 1) c (by omega) (by rw [ced, e1]; first | (rw [if_pos t17]; done) | (rw [if_neg (by omega)])) rfl
        · skip
          refine V_iload_n x 1 dX0_countEdges_20 rfl rfl ?_
          refine V_aload_n x 0 dX0_countEdges_21 rfl rfl ?_
          refine V_iload_n x 2 dX0_countEdges_22 rfl rfl ?_
          refine V_callVi x (c_countEdgesFrom l D cI cZ cC cJ ha sa sm sc sg sn ap so mb ac tg wn pa k (by first | omega | assumption) (by first | omega | assumption)) 1 (gdV mlX0_39 imX0_countEdgesFrom seX0_countEdgesFrom inX0 coX0_countEdgesFrom) rfl hdX0_countEdgesFrom ⟨Nat.le_of_ble_eq_true rfl, Nat.le_of_ble_eq_true rfl⟩ ⟨rfl, rfl⟩ 0 rfl rfl rfl [0, 1, 2, 3, 4, 5, 6] [(ha, .inr (0, [.ref sa, .ref sm, .ref sc, .ref sg, .ref sn, .ref ap])), (sa, .inl (cI, 211, .inl (fun i => nI (so i)))), (sm, .inl (cI, 211, .inl (fun i => nI (mb i)))), (sc, .inl (cZ, 211, .inl (fun i => bI (ac i)))), (sg, .inl (cI, 1688, .inl (fun i => oN (tg i)))), (sn, .inl (cI, 8, .inl (fun i => oN (wn i)))), (ap, .inl (cI, 8, .inl (fun i => nI (pa i))))] rfl rfl [ha, sa, sm, sc, sg, sn, ap] rfl rfl [some 0, some 1, some 2, some 3, some 4, some 5, some 6] rfl rfl (rest := [.int (nI c)]) rfl (Nat.le_of_ble_eq_true rfl) dX0_countEdges_23 ⟨Nat.zero_le _, Nat.zero_le _⟩ ?_
          refine V_iadd x (nI (c + (cef tg k 8))) dX0_countEdges_26 (nI_add _ _) ?_
          refine V_istore_n x 1 [(1, .int (nI (c + (cef tg k 8)))), (0, .ref ha), (2, .int (nI k))] dX0_countEdges_27 rfl (by decide) rfl ?_
          refine V_iinc x 2 2 [(2, .int (nI (k + 1))), (1, .int (nI (c + (cef tg k 8)))), (0, .ref ha)] dX0_countEdges_28 rfl (iinc_1 _) (by decide) rfl ?_
          refine V_goto x 4 dX0_countEdges_31 rfl ?_
          refine V.sub [2, 1, 0] (lv' := [(0, .ref ha), (1, .int (nI ((c + (cef tg k 8))))), (2, .int (nI ((k + 1))))]) rfl ?_
          exact ih4 (211 - (k + 1)) (by omega) (k + 1) (c + (cef tg k 8)) (by omega) (by rw [ced, e1]; first | (rw [if_pos t17]; done) | (rw [if_neg (by omega)])) rfl
  refine V.sub [2, 1, 0] (lv' := [(0, .ref ha), (1, .int (nI 0)), (2, .int (nI 0))]) rfl ?_
  exact L4 _ 0 0 (by omega) rfl rfl
set_option maxHeartbeats 4000000 in
set_option maxRecDepth 100000 in
theorem c_countAlike (l : Launch) (D : va_G) (cI cZ cC cJ : ClassId) (ha sa sm sc sg sn ap : Nat) (so : Nat → Nat) (mb : Nat → Nat) (ac : Nat → Bool) (tg : Nat → Option Nat) (wn : Nat → Option Nat) (pa : Nat → Nat) (p : Nat) (hp : p < 211) (hsp : so p < 211) : CI l yX0_countAlike wsX0_countAlike { frames := 0, cells := 0, slots := 0, locals := 0 } D vwCl (tys4 cI cZ cC cJ) [.ref ha, .int (nI p)] [(ha, .inr (0, [.ref sa, .ref sm, .ref sc, .ref sg, .ref sn, .ref ap])), (sa, .inl (cI, 211, .inl (fun i => nI (so i)))), (sm, .inl (cI, 211, .inl (fun i => nI (mb i)))), (sc, .inl (cZ, 211, .inl (fun i => bI (ac i)))), (sg, .inl (cI, 1688, .inl (fun i => oN (tg i)))), (sn, .inl (cI, 8, .inl (fun i => oN (wn i)))), (ap, .inl (cI, 8, .inl (fun i => nI (pa i))))] ((nI (mb (so p)))) [(ha, .inr (0, [.ref sa, .ref sm, .ref sc, .ref sg, .ref sn, .ref ap])), (sa, .inl (cI, 211, .inl (fun i => nI (so i)))), (sm, .inl (cI, 211, .inl (fun i => nI (mb i)))), (sc, .inl (cZ, 211, .inl (fun i => bI (ac i)))), (sg, .inl (cI, 1688, .inl (fun i => oN (tg i)))), (sn, .inl (cI, 8, .inl (fun i => oN (wn i)))), (ap, .inl (cI, 8, .inl (fun i => nI (pa i))))] := by
  refine CI.ofV rfl (by decide +kernel) rfl (Nat.le_of_ble_eq_true rfl) ?_
  intro κ x hret
  refine V_aload_n x 0 dX0_countAlike_0 rfl rfl ?_
  refine V_get x 0 0 1 hinX0 rfl rfl (by decide) flX0_15 rfl dX0_countAlike_1 ?_
  refine V_aload_n x 0 dX0_countAlike_4 rfl rfl ?_
  refine V_get x 0 0 0 hinX0 rfl rfl (by decide) flX0_9 rfl dX0_countAlike_5 ?_
  refine V_iload_n x 1 dX0_countAlike_8 rfl rfl ?_
  refine V_iald x 1 0 rfl rfl dX0_countAlike_9 (by omega) (by omega) ?_
  refine V_iald x 2 0 rfl rfl dX0_countAlike_10 (by omega) (by omega) ?_
  exact hret _ _ dX0_countAlike_11
set_option maxHeartbeats 4000000 in
set_option maxRecDepth 100000 in
theorem c_release (l : Launch) (D : va_G) (cI cZ cC cJ : ClassId) (ha sa sm sc sg sn ap hr ar ht tc tw tf tb tl ts tq : Nat) (so : Nat → Nat) (mb : Nat → Nat) (ac : Nat → Bool) (tg : Nat → Option Nat) (wn : Nat → Option Nat) (pa : Nat → Nat) (m : Nat) (tx : Nat → Nat) (n : Nat) (ch : Nat → Option Nat) (wh : Nat → Bool) (hf : Nat → Nat) (hb : Nat → Nat) (ln : Nat → Nat) (sw : Nat → Option Nat) (od : Nat → Nat) (hrg : rg ch) (hn : n ≤ m) (hm : m < 1000) (htx : ∀ i, tx i < 65536) (hso : ∀ i, so i < 211) (hok : ∀ k, k < trc ch tx n n8 → 1 ≤ rel so (trp ch tx n pa n8) mb k (so ((trp ch tx n pa n8) k))) (hpa : ∀ i, pa i < 211) : CV l yX0_release wsX0_release { frames := 3, cells := 0, slots := 0, locals := 70 } D vwCl (tys4 cI cZ cC cJ) [.ref ha, .ref hr, .ref ht] [(ha, .inr (0, [.ref sa, .ref sm, .ref sc, .ref sg, .ref sn, .ref ap])), (sa, .inl (cI, 211, .inl (fun i => nI (so i)))), (sm, .inl (cI, 211, .inl (fun i => nI (mb i)))), (sc, .inl (cZ, 211, .inl (fun i => bI (ac i)))), (sg, .inl (cI, 1688, .inl (fun i => oN (tg i)))), (sn, .inl (cI, 8, .inl (fun i => oN (wn i)))), (ap, .inl (cI, 8, .inl (fun i => nI (pa i)))), (hr, .inr (2, [.ref ar, .int (nI n)])), (ar, .inl (cC, m, .inl (fun i => nI (tx i)))), (ht, .inr (5, [.ref tc, .ref tw, .ref tf, .ref tb, .ref tl, .ref ts, .ref tq])), (tc, .inl (cI, 1688, .inl (fun i => oN (ch i)))), (tw, .inl (cZ, 211, .inl (fun i => bI (wh i)))), (tf, .inl (cI, 211, .inl (fun i => nI (hf i)))), (tb, .inl (cI, 211, .inl (fun i => nI (hb i)))), (tl, .inl (cI, 211, .inl (fun i => nI (ln i)))), (ts, .inl (cI, 211, .inl (fun i => oN (sw i)))), (tq, .inl (cI, 211, .inl (fun i => nI (od i))))] [(ha, .inr (0, [.ref sa, .ref sm, .ref sc, .ref sg, .ref sn, .ref ap])), (sa, .inl (cI, 211, .inl (fun i => nI (so i)))), (sm, .inl (cI, 211, .inl (fun i => nI ((rel so (trp ch tx n pa n8) mb (trc ch tx n n8)) i)))), (sc, .inl (cZ, 211, .inl (fun i => bI (ac i)))), (sg, .inl (cI, 1688, .inl (fun i => oN (tg i)))), (sn, .inl (cI, 8, .inl (fun i => oN (wn i)))), (ap, .inl (cI, 8, .inl (fun i => nI (((trp ch tx n pa n8)) i)))), (hr, .inr (2, [.ref ar, .int (nI n)])), (ar, .inl (cC, m, .inl (fun i => nI (tx i)))), (ht, .inr (5, [.ref tc, .ref tw, .ref tf, .ref tb, .ref tl, .ref ts, .ref tq])), (tc, .inl (cI, 1688, .inl (fun i => oN (ch i)))), (tw, .inl (cZ, 211, .inl (fun i => bI (wh i)))), (tf, .inl (cI, 211, .inl (fun i => nI (hf i)))), (tb, .inl (cI, 211, .inl (fun i => nI (hb i)))), (tl, .inl (cI, 211, .inl (fun i => nI (ln i)))), (ts, .inl (cI, 211, .inl (fun i => oN (sw i)))), (tq, .inl (cI, 211, .inl (fun i => nI (od i))))] := by
  refine CV.ofV (by decide +kernel) rfl (Nat.le_of_ble_eq_true rfl) ?_
  intro κ x hret
  refine V_aload_n x 2 dX0_release_0 rfl rfl ?_
  refine V_aload_n x 1 dX0_release_1 rfl rfl ?_
  refine V_aload_n x 0 dX0_release_2 rfl rfl ?_
  refine V_get x 0 0 5 hinX0 rfl rfl (by decide) flX0_28 rfl dX0_release_3 ?_
  refine V_callVi x (c_trace l D cI cZ cC cJ ht tc tw tf tb tl ts tq hr ar ap ch wh hf hb ln sw od m tx n pa (by first | omega | assumption) (by first | omega | assumption) (by first | omega | assumption) (by first | omega | assumption)) 2 (gdV mlX0_43 imX5_trace seX5_trace inX5 coX5_trace) rfl hdX5_trace ⟨Nat.le_of_ble_eq_true rfl, Nat.le_of_ble_eq_true rfl⟩ ⟨rfl, rfl⟩ 9 rfl rfl rfl [9, 10, 11, 12, 13, 14, 15, 16, 7, 8, 6] [(ha, .inr (0, [.ref sa, .ref sm, .ref sc, .ref sg, .ref sn, .ref ap])), (sa, .inl (cI, 211, .inl (fun i => nI (so i)))), (sm, .inl (cI, 211, .inl (fun i => nI (mb i)))), (sc, .inl (cZ, 211, .inl (fun i => bI (ac i)))), (sg, .inl (cI, 1688, .inl (fun i => oN (tg i)))), (sn, .inl (cI, 8, .inl (fun i => oN (wn i)))), (ap, .inl (cI, 8, .inl (fun i => nI ((trp ch tx n pa n8) i)))), (hr, .inr (2, [.ref ar, .int (nI n)])), (ar, .inl (cC, m, .inl (fun i => nI (tx i)))), (ht, .inr (5, [.ref tc, .ref tw, .ref tf, .ref tb, .ref tl, .ref ts, .ref tq])), (tc, .inl (cI, 1688, .inl (fun i => oN (ch i)))), (tw, .inl (cZ, 211, .inl (fun i => bI (wh i)))), (tf, .inl (cI, 211, .inl (fun i => nI (hf i)))), (tb, .inl (cI, 211, .inl (fun i => nI (hb i)))), (tl, .inl (cI, 211, .inl (fun i => nI (ln i)))), (ts, .inl (cI, 211, .inl (fun i => oN (sw i)))), (tq, .inl (cI, 211, .inl (fun i => nI (od i))))] rfl rfl [ht, tc, tw, tf, tb, tl, ts, tq, hr, ar, ap] rfl rfl [none, none, none, none, none, none, some 10, some 8, some 9, some 0, some 1, some 2, some 3, some 4, some 5, some 6, some 7] rfl rfl (rest := []) rfl (Nat.le_of_ble_eq_true rfl) dX0_release_6 ⟨Nat.zero_le _, Nat.zero_le _⟩ ?_
  refine V_istore_n x 3 [(3, .int (nI (trc ch tx n n8))), (0, .ref ha), (1, .ref hr), (2, .ref ht)] dX0_release_9 rfl (by decide) rfl ?_
  refine V_iconst (v := nI 0) x dX0_release_10 (by decide +kernel) ?_
  refine V_istore x 4 [(4, .int (nI 0)), (3, .int (nI (trc ch tx n n8))), (0, .ref ha), (1, .ref hr), (2, .ref ht)] dX0_release_11 (by decide) rfl ?_
  have h8 := trc_le ch tx n n8
  have h88 := n8_eq
  have L13 : ∀ (k13 : Nat) (k : Nat) (mb1 : Nat → Nat) (hk : k ≤ trc ch tx n n8) (e1 : rel so (trp ch tx n pa n8) mb k = mb1) (hk13 : trc ch tx n n8 - k = k13), V κ 0 0 [(ha, .inr (0, [.ref sa, .ref sm, .ref sc, .ref sg, .ref sn, .ref ap])), (sa, .inl (cI, 211, .inl (fun i => nI (so i)))), (sm, .inl (cI, 211, .inl (fun i => nI (mb1 i)))), (sc, .inl (cZ, 211, .inl (fun i => bI (ac i)))), (sg, .inl (cI, 1688, .inl (fun i => oN (tg i)))), (sn, .inl (cI, 8, .inl (fun i => oN (wn i)))), (ap, .inl (cI, 8, .inl (fun i => nI (((trp ch tx n pa n8)) i)))), (hr, .inr (2, [.ref ar, .int (nI n)])), (ar, .inl (cC, m, .inl (fun i => nI (tx i)))), (ht, .inr (5, [.ref tc, .ref tw, .ref tf, .ref tb, .ref tl, .ref ts, .ref tq])), (tc, .inl (cI, 1688, .inl (fun i => oN (ch i)))), (tw, .inl (cZ, 211, .inl (fun i => bI (wh i)))), (tf, .inl (cI, 211, .inl (fun i => nI (hf i)))), (tb, .inl (cI, 211, .inl (fun i => nI (hb i)))), (tl, .inl (cI, 211, .inl (fun i => nI (ln i)))), (ts, .inl (cI, 211, .inl (fun i => oN (sw i)))), (tq, .inl (cI, 211, .inl (fun i => nI (od i))))] 13 [(0, .ref ha), (1, .ref hr), (2, .ref ht), (3, .int (nI (trc ch tx n n8))), (4, .int (nI k))] [] := by
    intro k13
    induction k13 using Nat.strongRecOn with
    | ind k13 ih13 =>
      intro k mb1 hk e1 hk13
      have h8 := trc_le ch tx n n8
      have h88 := n8_eq
      refine V_iload x 4 dX0_release_13 rfl ?_
      refine V_iload_n x 3 dX0_release_15 rfl rfl ?_
      refine V_icmp_geN x 46 dX0_release_16 rfl (fun t16 => ?_) (fun f16 => ?_) (by omega) (by omega)
      · skip
        obtain rfl : k = trc ch tx n n8 := by omega
        rw [e1] at hret
        exact hret _ _ dX0_release_46
      · skip
        have hok1 := hok k (by omega)
        rw [e1] at hok1
        have hpk := trp_lt (tx := tx) (n := n) hrg hpa n8 k
        have hsk := hso ((trp ch tx n pa n8) k)
        refine V_aload_n x 0 dX0_release_19 rfl rfl ?_
        refine V_get x 0 0 1 hinX0 rfl rfl (by decide) flX0_15 rfl dX0_release_20 ?_
        refine V_aload_n x 0 dX0_release_23 rfl rfl ?_
        refine V_get x 0 0 0 hinX0 rfl rfl (by decide) flX0_9 rfl dX0_release_24 ?_
        refine V_aload_n x 0 dX0_release_27 rfl rfl ?_
        refine V_get x 0 0 5 hinX0 rfl rfl (by decide) flX0_28 rfl dX0_release_28 ?_
        refine V_iload x 4 dX0_release_31 rfl ?_
        refine V_iald x 6 0 rfl rfl dX0_release_33 (by omega) (by omega) ?_
        refine V_iald x 1 0 rfl rfl dX0_release_34 hpk (by omega) ?_
        refine V_dup2 x dX0_release_35 rfl rfl ?_
        refine V_iald x 2 0 rfl rfl dX0_release_36 hsk (by omega) ?_
        refine V_iconst (v := nI 1) x dX0_release_37 (by decide +kernel) ?_
        refine V_isub x (nI ((mb1 (so (((trp ch tx n pa n8)) k))) - 1)) dX0_release_38 (pk_sub (by omega)) ?_
        refine V_iast x 2 0 nI mb1 ((mb1 (so (((trp ch tx n pa n8)) k))) - 1) [(ha, .inr (0, [.ref sa, .ref sm, .ref sc, .ref sg, .ref sn, .ref ap])), (sa, .inl (cI, 211, .inl (fun i => nI (so i)))), (sm, .inl (cI, 211, .inl (fun i => nI ((va_up mb1 (so (((trp ch tx n pa n8)) k)) ((mb1 (so (((trp ch tx n pa n8)) k))) - 1)) i)))), (sc, .inl (cZ, 211, .inl (fun i => bI (ac i)))), (sg, .inl (cI, 1688, .inl (fun i => oN (tg i)))), (sn, .inl (cI, 8, .inl (fun i => oN (wn i)))), (ap, .inl (cI, 8, .inl (fun i => nI (((trp ch tx n pa n8)) i)))), (hr, .inr (2, [.ref ar, .int (nI n)])), (ar, .inl (cC, m, .inl (fun i => nI (tx i)))), (ht, .inr (5, [.ref tc, .ref tw, .ref tf, .ref tb, .ref tl, .ref ts, .ref tq])), (tc, .inl (cI, 1688, .inl (fun i => oN (ch i)))), (tw, .inl (cZ, 211, .inl (fun i => bI (wh i)))), (tf, .inl (cI, 211, .inl (fun i => nI (hf i)))), (tb, .inl (cI, 211, .inl (fun i => nI (hb i)))), (tl, .inl (cI, 211, .inl (fun i => nI (ln i)))), (ts, .inl (cI, 211, .inl (fun i => oN (sw i)))), (tq, .inl (cI, 211, .inl (fun i => nI (od i))))] rfl rfl dX0_release_39 hsk (by omega) rfl ?_
        refine V_iinc x 4 4 [(4, .int (nI (k + 1))), (0, .ref ha), (1, .ref hr), (2, .ref ht), (3, .int (nI (trc ch tx n n8)))] dX0_release_40 rfl (iinc_1 _) (by decide) rfl ?_
        refine V_goto x 13 dX0_release_43 rfl ?_
        have h8 := trc_le ch tx n n8
        have h88 := n8_eq
        refine V.sub [1, 2, 3, 4, 0] (lv' := [(0, .ref ha), (1, .ref hr), (2, .ref ht), (3, .int (nI (trc ch tx n n8))), (4, .int (nI ((k + 1))))]) rfl ?_
        exact ih13 (trc ch tx n n8 - (k + 1)) (by omega) (k + 1) (va_up mb1 (so (((trp ch tx n pa n8)) k)) ((mb1 (so (((trp ch tx n pa n8)) k))) - 1)) (by omega) (by rw [rel, e1]) rfl
  refine V.sub [2, 3, 4, 1, 0] (lv' := [(0, .ref ha), (1, .ref hr), (2, .ref ht), (3, .int (nI (trc ch tx n n8))), (4, .int (nI 0))]) rfl ?_
  exact L13 _ 0 mb (by omega) rfl rfl
set_option maxHeartbeats 4000000 in
set_option maxRecDepth 100000 in
theorem c_hasWanted (l : Launch) (D : va_G) (cI cZ cC cJ : ClassId) (ha sa sm sc sg sn ap : Nat) (so : Nat → Nat) (mb : Nat → Nat) (ac : Nat → Bool) (tg : Nat → Option Nat) (wn : Nat → Option Nat) (pa : Nat → Nat) (s : Nat) (htg : rg tg) (hwn : rg wn) (hs : s < 211) : CI l yX0_hasWantedTargets wsX0_hasWantedTargets { frames := 0, cells := 0, slots := 0, locals := 0 } D vwCl (tys4 cI cZ cC cJ) [.ref ha, .int (nI s)] [(ha, .inr (0, [.ref sa, .ref sm, .ref sc, .ref sg, .ref sn, .ref ap])), (sa, .inl (cI, 211, .inl (fun i => nI (so i)))), (sm, .inl (cI, 211, .inl (fun i => nI (mb i)))), (sc, .inl (cZ, 211, .inl (fun i => bI (ac i)))), (sg, .inl (cI, 1688, .inl (fun i => oN (tg i)))), (sn, .inl (cI, 8, .inl (fun i => oN (wn i)))), (ap, .inl (cI, 8, .inl (fun i => nI (pa i))))] ((bI (hwt tg wn s 8 0))) [(ha, .inr (0, [.ref sa, .ref sm, .ref sc, .ref sg, .ref sn, .ref ap])), (sa, .inl (cI, 211, .inl (fun i => nI (so i)))), (sm, .inl (cI, 211, .inl (fun i => nI (mb i)))), (sc, .inl (cZ, 211, .inl (fun i => bI (ac i)))), (sg, .inl (cI, 1688, .inl (fun i => oN (tg i)))), (sn, .inl (cI, 8, .inl (fun i => oN (wn i)))), (ap, .inl (cI, 8, .inl (fun i => nI (pa i))))] := by
  refine CI.ofV (nar_bI2 _) (by decide +kernel) rfl (Nat.le_of_ble_eq_true rfl) ?_
  intro κ x hret
  refine V_iconst (v := nI 0) x dX0_hasWantedTargets_0 (by decide +kernel) ?_
  refine V_istore_n x 2 [(2, .int (nI 0)), (0, .ref ha), (1, .int (nI s))] dX0_hasWantedTargets_1 rfl (by decide) rfl ?_
  have L2 : ∀ (k2 : Nat) (k : Nat) (hk : k ≤ 8) (e1 : hwt tg wn s (8 - k) k = hwt tg wn s 8 0) (hk2 : 8 - k = k2), V κ 0 0 [(ha, .inr (0, [.ref sa, .ref sm, .ref sc, .ref sg, .ref sn, .ref ap])), (sa, .inl (cI, 211, .inl (fun i => nI (so i)))), (sm, .inl (cI, 211, .inl (fun i => nI (mb i)))), (sc, .inl (cZ, 211, .inl (fun i => bI (ac i)))), (sg, .inl (cI, 1688, .inl (fun i => oN (tg i)))), (sn, .inl (cI, 8, .inl (fun i => oN (wn i)))), (ap, .inl (cI, 8, .inl (fun i => nI (pa i))))] 2 [(0, .ref ha), (1, .int (nI s)), (2, .int (nI k))] [] := by
    intro k2
    induction k2 using Nat.strongRecOn with
    | ind k2 ih2 =>
      intro k hk e1 hk2
      refine V_iload_n x 2 dX0_hasWantedTargets_2 rfl rfl ?_
      refine V_bipush (v := nI 8) x dX0_hasWantedTargets_3 (by decide +kernel) ?_
      refine V_icmp_geN x 36 dX0_hasWantedTargets_5 rfl (fun t5 => ?_) (fun f5 => ?_)
      · skip
        refine V_iconst (v := nI 1) x dX0_hasWantedTargets_36 (by decide +kernel) ?_
        refine V.ci (x' := bI (hwt tg wn s 8 0)) (by rw [← e1, show 8 - k = 0 by omega]; rfl) ?_
        exact hret _ _ dX0_hasWantedTargets_37
      · skip
        refine V_aload_n x 0 dX0_hasWantedTargets_8 rfl rfl ?_
        refine V_get x 0 0 3 hinX0 rfl rfl (by decide) flX0_22 rfl dX0_hasWantedTargets_9 ?_
        refine V_iload_n x 1 dX0_hasWantedTargets_12 rfl rfl ?_
        refine V_bipush (v := nI 8) x dX0_hasWantedTargets_13 (by decide +kernel) ?_
        refine V_imul x (nI (s * 8)) dX0_hasWantedTargets_15 (pk_mul _ _) ?_
        refine V_iload_n x 2 dX0_hasWantedTargets_16 rfl rfl ?_
        refine V_iadd x (nI ((s * 8) + k)) dX0_hasWantedTargets_17 (nI_add _ _) ?_
        refine V_iald x 4 0 rfl rfl dX0_hasWantedTargets_18 (by omega) (by omega) ?_
        refine V_aload_n x 0 dX0_hasWantedTargets_19 rfl rfl ?_
        refine V_get x 0 0 4 hinX0 rfl rfl (by decide) flX0_25 rfl dX0_hasWantedTargets_20 ?_
        refine V_iload_n x 2 dX0_hasWantedTargets_23 rfl rfl ?_
        refine V_iald x 5 0 rfl rfl dX0_hasWantedTargets_24 (by omega) (by omega) ?_
        refine V_icmp_eqOO x 30 dX0_hasWantedTargets_25 rfl (fun z hz => lt31 (htg _ _ hz)) (fun z hz => lt31 (hwn _ _ hz)) (fun t25 => ?_) (fun f25 => ?_)
        · skip
          refine V_iinc x 2 2 [(2, .int (nI (k + 1))), (0, .ref ha), (1, .int (nI s))] dX0_hasWantedTargets_30 rfl (iinc_1 _) (by decide) rfl ?_
          refine V_goto x 2 dX0_hasWantedTargets_33 rfl ?_
          refine V.sub [1, 2, 0] (lv' := [(0, .ref ha), (1, .int (nI s)), (2, .int (nI ((k + 1))))]) rfl ?_
          exact ih2 (8 - (k + 1)) (by omega) (k + 1) (by omega) (by rw [← e1, show 8 - k = (8 - (k + 1)) + 1 by omega]; exact (if_pos t25).symm) rfl
        · skip
          refine V_iconst (v := nI 0) x dX0_hasWantedTargets_28 (by decide +kernel) ?_
          refine V.ci (x' := bI (hwt tg wn s 8 0)) (by rw [← e1, show 8 - k = (8 - (k + 1)) + 1 by omega]; show _ = bI (if _ then _ else _); rw [if_neg f25]; rfl) ?_
          exact hret _ _ dX0_hasWantedTargets_29
  refine V.sub [1, 2, 0] (lv' := [(0, .ref ha), (1, .int (nI s)), (2, .int (nI 0))]) rfl ?_
  exact L2 _ 0 (by omega) rfl rfl
set_option maxHeartbeats 4000000 in
set_option maxRecDepth 100000 in
theorem c_wanted (l : Launch) (D : va_G) (cI cZ cC cJ : ClassId) (ha sa sm sc sg sn ap : Nat) (so : Nat → Nat) (mb : Nat → Nat) (ac : Nat → Bool) (tg : Nat → Option Nat) (wn : Nat → Option Nat) (pa : Nat → Nat) (b : Bool) (htg : rg tg) (hwn : rg wn) (hmb : ∀ i, mb i < 1000) : CI l yX0_wantedState wsX0_wantedState { frames := 1, cells := 0, slots := 0, locals := 22 } D vwCl (tys4 cI cZ cC cJ) [.ref ha, .int (bI b)] [(ha, .inr (0, [.ref sa, .ref sm, .ref sc, .ref sg, .ref sn, .ref ap])), (sa, .inl (cI, 211, .inl (fun i => nI (so i)))), (sm, .inl (cI, 211, .inl (fun i => nI (mb i)))), (sc, .inl (cZ, 211, .inl (fun i => bI (ac i)))), (sg, .inl (cI, 1688, .inl (fun i => oN (tg i)))), (sn, .inl (cI, 8, .inl (fun i => oN (wn i)))), (ap, .inl (cI, 8, .inl (fun i => nI (pa i))))] ((oN (wst mb ac tg wn b 211 0))) [(ha, .inr (0, [.ref sa, .ref sm, .ref sc, .ref sg, .ref sn, .ref ap])), (sa, .inl (cI, 211, .inl (fun i => nI (so i)))), (sm, .inl (cI, 211, .inl (fun i => nI (mb i)))), (sc, .inl (cZ, 211, .inl (fun i => bI (ac i)))), (sg, .inl (cI, 1688, .inl (fun i => oN (tg i)))), (sn, .inl (cI, 8, .inl (fun i => oN (wn i)))), (ap, .inl (cI, 8, .inl (fun i => nI (pa i))))] := by
  refine CI.ofV rfl (by decide +kernel) rfl (Nat.le_of_ble_eq_true rfl) ?_
  intro κ x hret
  refine V_iconst (v := nI 0) x dX0_wantedState_0 (by decide +kernel) ?_
  refine V_istore_n x 2 [(2, .int (nI 0)), (0, .ref ha), (1, .int (bI b))] dX0_wantedState_1 rfl (by decide) rfl ?_
  have L2 : ∀ (k2 : Nat) (k : Nat) (hk : k ≤ 211) (e1 : wst mb ac tg wn b (211 - k) k = wst mb ac tg wn b 211 0) (hk2 : 211 - k = k2), V κ 0 0 [(ha, .inr (0, [.ref sa, .ref sm, .ref sc, .ref sg, .ref sn, .ref ap])), (sa, .inl (cI, 211, .inl (fun i => nI (so i)))), (sm, .inl (cI, 211, .inl (fun i => nI (mb i)))), (sc, .inl (cZ, 211, .inl (fun i => bI (ac i)))), (sg, .inl (cI, 1688, .inl (fun i => oN (tg i)))), (sn, .inl (cI, 8, .inl (fun i => oN (wn i)))), (ap, .inl (cI, 8, .inl (fun i => nI (pa i))))] 2 [(0, .ref ha), (1, .int (bI b)), (2, .int (nI k))] [] := by
    intro k2
    induction k2 using Nat.strongRecOn with
    | ind k2 ih2 =>
      intro k hk e1 hk2
      refine V_iload_n x 2 dX0_wantedState_2 rfl rfl ?_
      refine V_sipush (v := nI 211) x dX0_wantedState_3 (by decide +kernel) ?_
      refine V_icmp_geN x 44 dX0_wantedState_6 rfl (fun t6 => ?_) (fun f6 => ?_)
      · skip
        refine V_iconst (v := (-1)) x dX0_wantedState_44 (by decide +kernel) ?_
        refine V.ci (x' := oN (wst mb ac tg wn b 211 0)) (by rw [← e1, show 211 - k = 0 by omega]; rfl) ?_
        exact hret _ _ dX0_wantedState_45
      · skip
        refine V_aload_n x 0 dX0_wantedState_9 rfl rfl ?_
        refine V_get x 0 0 1 hinX0 rfl rfl (by decide) flX0_15 rfl dX0_wantedState_10 ?_
        refine V_iload_n x 2 dX0_wantedState_13 rfl rfl ?_
        refine V_iald x 2 0 rfl rfl dX0_wantedState_14 (by omega) (by omega) ?_
        refine V_if_eqN x 38 dX0_wantedState_15 rfl (fun t15 => ?_) (fun f15 => ?_) (by have := hmb k; omega)
        · skip
          refine V_iinc x 2 2 [(2, .int (nI (k + 1))), (0, .ref ha), (1, .int (bI b))] dX0_wantedState_38 rfl (iinc_1 _) (by decide) rfl ?_
          refine V_goto x 2 dX0_wantedState_41 rfl ?_
          refine V.sub [1, 2, 0] (lv' := [(0, .ref ha), (1, .int (bI b)), (2, .int (nI ((k + 1))))]) rfl ?_
          exact ih2 (211 - (k + 1)) (by omega) (k + 1) (by omega) (by rw [← e1, show 211 - k = (211 - (k + 1)) + 1 by omega]; refine (wst_no (fun q => ?_)).symm; first | exact q.1 t15 | exact t25 q.2.1 | (rw [q.2.2] at t33; cases t33)) rfl
        · skip
          refine V_aload_n x 0 dX0_wantedState_18 rfl rfl ?_
          refine V_get x 0 0 2 hinX0 rfl rfl (by decide) flX0_18 rfl dX0_wantedState_19 ?_
          refine V_iload_n x 2 dX0_wantedState_22 rfl rfl ?_
          refine V_zald x 3 1 rfl rfl dX0_wantedState_23 (by omega) (by omega) ?_
          refine V_iload_n x 1 dX0_wantedState_24 rfl rfl ?_
          refine V_icmp_neBB x 38 dX0_wantedState_25 rfl (fun t25 => ?_) (fun f25 => ?_)
          · skip
            refine V_iinc x 2 2 [(2, .int (nI (k + 1))), (0, .ref ha), (1, .int (bI b))] dX0_wantedState_38 rfl (iinc_1 _) (by decide) rfl ?_
            refine V_goto x 2 dX0_wantedState_41 rfl ?_
            refine V.sub [1, 2, 0] (lv' := [(0, .ref ha), (1, .int (bI b)), (2, .int (nI ((k + 1))))]) rfl ?_
            exact ih2 (211 - (k + 1)) (by omega) (k + 1) (by omega) (by rw [← e1, show 211 - k = (211 - (k + 1)) + 1 by omega]; refine (wst_no (fun q => ?_)).symm; first | exact q.1 t15 | exact t25 q.2.1 | (rw [q.2.2] at t33; cases t33)) rfl
          · skip
            refine V_aload_n x 0 dX0_wantedState_28 rfl rfl ?_
            refine V_iload_n x 2 dX0_wantedState_29 rfl rfl ?_
            refine V_callVi x (c_hasWanted l D cI cZ cC cJ ha sa sm sc sg sn ap so mb ac tg wn pa k (by first | omega | assumption) (by first | omega | assumption) (by first | omega | assumption)) 1 (gdV mlX0_66 imX0_hasWantedTargets seX0_hasWantedTargets inX0 coX0_hasWantedTargets) rfl hdX0_hasWantedTargets ⟨Nat.le_of_ble_eq_true rfl, Nat.le_of_ble_eq_true rfl⟩ ⟨rfl, rfl⟩ 0 rfl rfl rfl [0, 1, 2, 3, 4, 5, 6] [(ha, .inr (0, [.ref sa, .ref sm, .ref sc, .ref sg, .ref sn, .ref ap])), (sa, .inl (cI, 211, .inl (fun i => nI (so i)))), (sm, .inl (cI, 211, .inl (fun i => nI (mb i)))), (sc, .inl (cZ, 211, .inl (fun i => bI (ac i)))), (sg, .inl (cI, 1688, .inl (fun i => oN (tg i)))), (sn, .inl (cI, 8, .inl (fun i => oN (wn i)))), (ap, .inl (cI, 8, .inl (fun i => nI (pa i))))] rfl rfl [ha, sa, sm, sc, sg, sn, ap] rfl rfl [some 0, some 1, some 2, some 3, some 4, some 5, some 6] rfl rfl (rest := []) rfl (Nat.le_of_ble_eq_true rfl) dX0_wantedState_30 ⟨Nat.zero_le _, Nat.zero_le _⟩ ?_
            refine V_if_eqB x 38 dX0_wantedState_33 rfl (fun t33 => ?_) (fun f33 => ?_)
            · skip
              refine V_iinc x 2 2 [(2, .int (nI (k + 1))), (0, .ref ha), (1, .int (bI b))] dX0_wantedState_38 rfl (iinc_1 _) (by decide) rfl ?_
              refine V_goto x 2 dX0_wantedState_41 rfl ?_
              refine V.sub [1, 2, 0] (lv' := [(0, .ref ha), (1, .int (bI b)), (2, .int (nI ((k + 1))))]) rfl ?_
              exact ih2 (211 - (k + 1)) (by omega) (k + 1) (by omega) (by rw [← e1, show 211 - k = (211 - (k + 1)) + 1 by omega]; refine (wst_no (fun q => ?_)).symm; first | exact q.1 t15 | exact t25 q.2.1 | (rw [q.2.2] at t33; cases t33)) rfl
            · skip
              refine V_iload_n x 2 dX0_wantedState_36 rfl rfl ?_
              refine V.ci (x' := oN (wst mb ac tg wn b 211 0)) (by rw [← e1, show 211 - k = (211 - (k + 1)) + 1 by omega, wst_yes ⟨by omega, f25, f33⟩]; rfl) ?_
              exact hret _ _ dX0_wantedState_37
  refine V.sub [1, 2, 0] (lv' := [(0, .ref ha), (1, .int (bI b)), (2, .int (nI 0))]) rfl ?_
  exact L2 _ 0 (by omega) rfl rfl
set_option maxHeartbeats 4000000 in
set_option maxRecDepth 100000 in
theorem c_newState (l : Launch) (D : va_G) (cI cZ cC cJ : ClassId) (ha sa sm sc sg sn ap : Nat) (so : Nat → Nat) (mb : Nat → Nat) (ac : Nat → Bool) (tg : Nat → Option Nat) (wn : Nat → Option Nat) (pa : Nat → Nat) (b : Bool) (hmb : ∀ i, mb i < 1000) : CI l yX0_newState wsX0_newState { frames := 1, cells := 0, slots := 0, locals := 40 } D vwCl (tys4 cI cZ cC cJ) [.ref ha, .int (bI b)] [(ha, .inr (0, [.ref sa, .ref sm, .ref sc, .ref sg, .ref sn, .ref ap])), (sa, .inl (cI, 211, .inl (fun i => nI (so i)))), (sm, .inl (cI, 211, .inl (fun i => nI (mb i)))), (sc, .inl (cZ, 211, .inl (fun i => bI (ac i)))), (sg, .inl (cI, 1688, .inl (fun i => oN (tg i)))), (sn, .inl (cI, 8, .inl (fun i => oN (wn i)))), (ap, .inl (cI, 8, .inl (fun i => nI (pa i))))] ((nI (fcl mb 210 0))) [(ha, .inr (0, [.ref sa, .ref sm, .ref sc, .ref sg, .ref sn, .ref ap])), (sa, .inl (cI, 211, .inl (fun i => nI (so i)))), (sm, .inl (cI, 211, .inl (fun i => nI (mb i)))), (sc, .inl (cZ, 211, .inl (fun i => bI ((va_up ac (fcl mb 210 0) b) i)))), (sg, .inl (cI, 1688, .inl (fun i => oN ((va_cpy wn tg 0 (fcl mb 210 0 * 8) 8) i)))), (sn, .inl (cI, 8, .inl (fun i => oN (wn i)))), (ap, .inl (cI, 8, .inl (fun i => nI (pa i))))] := by
  refine CI.ofV rfl (by decide +kernel) rfl (Nat.le_of_ble_eq_true rfl) ?_
  intro κ x hret
  refine V_iconst (v := nI 0) x dX0_newState_0 (by decide +kernel) ?_
  refine V_istore_n x 2 [(2, .int (nI 0)), (0, .ref ha), (1, .int (bI b))] dX0_newState_1 rfl (by decide) rfl ?_
  have L2 : ∀ (k2 : Nat) (k : Nat) (hk : k ≤ 210) (e1 : fcl mb (210 - k) k = fcl mb 210 0) (hk2 : 210 - k = k2), V κ 0 0 [(ha, .inr (0, [.ref sa, .ref sm, .ref sc, .ref sg, .ref sn, .ref ap])), (sa, .inl (cI, 211, .inl (fun i => nI (so i)))), (sm, .inl (cI, 211, .inl (fun i => nI (mb i)))), (sc, .inl (cZ, 211, .inl (fun i => bI (ac i)))), (sg, .inl (cI, 1688, .inl (fun i => oN (tg i)))), (sn, .inl (cI, 8, .inl (fun i => oN (wn i)))), (ap, .inl (cI, 8, .inl (fun i => nI (pa i))))] 2 [(0, .ref ha), (1, .int (bI b)), (2, .int (nI k))] [] := by
    intro k2
    induction k2 using Nat.strongRecOn with
    | ind k2 ih2 =>
      intro k hk e1 hk2
      refine V_iload_n x 2 dX0_newState_2 rfl rfl ?_
      refine V_sipush (v := nI 210) x dX0_newState_3 (by decide +kernel) ?_
      refine V_icmp_geN x 24 dX0_newState_6 rfl (fun t6 => ?_) (fun f6 => ?_)
      · skip
        have e9 : fcl mb 210 0 = k := by
          rw [← e1]
          exact fcl_end (by omega) _
        rw [e9] at hret
        refine V_aload_n x 0 dX0_newState_24 rfl rfl ?_
        refine V_get x 0 0 2 hinX0 rfl rfl (by decide) flX0_18 rfl dX0_newState_25 ?_
        refine V_iload_n x 2 dX0_newState_28 rfl rfl ?_
        refine V_iload_n x 1 dX0_newState_29 rfl rfl ?_
        refine V_zast x 3 1 ac b [(ha, .inr (0, [.ref sa, .ref sm, .ref sc, .ref sg, .ref sn, .ref ap])), (sa, .inl (cI, 211, .inl (fun i => nI (so i)))), (sm, .inl (cI, 211, .inl (fun i => nI (mb i)))), (sc, .inl (cZ, 211, .inl (fun i => bI ((va_up ac k b) i)))), (sg, .inl (cI, 1688, .inl (fun i => oN (tg i)))), (sn, .inl (cI, 8, .inl (fun i => oN (wn i)))), (ap, .inl (cI, 8, .inl (fun i => nI (pa i))))] rfl rfl dX0_newState_30 (by omega) (by omega) rfl ?_
        refine V_aload_n x 0 dX0_newState_31 rfl rfl ?_
        refine V_get x 0 0 4 hinX0 rfl rfl (by decide) flX0_25 rfl dX0_newState_32 ?_
        refine V_iconst (v := nI 0) x dX0_newState_35 (by decide +kernel) ?_
        refine V_aload_n x 0 dX0_newState_36 rfl rfl ?_
        refine V_get x 0 0 3 hinX0 rfl rfl (by decide) flX0_22 rfl dX0_newState_37 ?_
        refine V_iload_n x 2 dX0_newState_40 rfl rfl ?_
        refine V_bipush (v := nI 8) x dX0_newState_41 (by decide +kernel) ?_
        refine V_imul x (nI (k * 8)) dX0_newState_43 (pk_mul _ _) ?_
        refine V_bipush (v := nI 8) x dX0_newState_44 (by decide +kernel) ?_
        refine V_copy x 5 4 oN wn tg 0 (k * 8) 8 [(ha, .inr (0, [.ref sa, .ref sm, .ref sc, .ref sg, .ref sn, .ref ap])), (sa, .inl (cI, 211, .inl (fun i => nI (so i)))), (sm, .inl (cI, 211, .inl (fun i => nI (mb i)))), (sc, .inl (cZ, 211, .inl (fun i => bI ((va_up ac k b) i)))), (sg, .inl (cI, 1688, .inl (fun i => oN ((va_cpy wn tg 0 (k * 8) 8) i)))), (sn, .inl (cI, 8, .inl (fun i => oN (wn i)))), (ap, .inl (cI, 8, .inl (fun i => nI (pa i))))] mlX0_69 ac_na ac_st ac_in rfl rfl rfl (by omega) (by omega) (by omega) (by omega) ⟨Nat.le_of_ble_eq_true rfl, Nat.le_of_ble_eq_true rfl⟩ dX0_newState_46 rfl ?_
        refine V_iload_n x 2 dX0_newState_49 rfl rfl ?_
        exact hret _ _ dX0_newState_50
      · skip
        refine V_aload_n x 0 dX0_newState_9 rfl rfl ?_
        refine V_get x 0 0 1 hinX0 rfl rfl (by decide) flX0_15 rfl dX0_newState_10 ?_
        refine V_iload_n x 2 dX0_newState_13 rfl rfl ?_
        refine V_iald x 2 0 rfl rfl dX0_newState_14 (by omega) (by omega) ?_
        refine V_if_eqN x 24 dX0_newState_15 rfl (fun t15 => ?_) (fun f15 => ?_) (by have := hmb k; omega)
        · skip
          have e9 : fcl mb 210 0 = k := by
            rw [← e1]
            exact fcl_end (by omega) _
          rw [e9] at hret
          refine V_aload_n x 0 dX0_newState_24 rfl rfl ?_
          refine V_get x 0 0 2 hinX0 rfl rfl (by decide) flX0_18 rfl dX0_newState_25 ?_
          refine V_iload_n x 2 dX0_newState_28 rfl rfl ?_
          refine V_iload_n x 1 dX0_newState_29 rfl rfl ?_
          refine V_zast x 3 1 ac b [(ha, .inr (0, [.ref sa, .ref sm, .ref sc, .ref sg, .ref sn, .ref ap])), (sa, .inl (cI, 211, .inl (fun i => nI (so i)))), (sm, .inl (cI, 211, .inl (fun i => nI (mb i)))), (sc, .inl (cZ, 211, .inl (fun i => bI ((va_up ac k b) i)))), (sg, .inl (cI, 1688, .inl (fun i => oN (tg i)))), (sn, .inl (cI, 8, .inl (fun i => oN (wn i)))), (ap, .inl (cI, 8, .inl (fun i => nI (pa i))))] rfl rfl dX0_newState_30 (by omega) (by omega) rfl ?_
          refine V_aload_n x 0 dX0_newState_31 rfl rfl ?_
          refine V_get x 0 0 4 hinX0 rfl rfl (by decide) flX0_25 rfl dX0_newState_32 ?_
          refine V_iconst (v := nI 0) x dX0_newState_35 (by decide +kernel) ?_
          refine V_aload_n x 0 dX0_newState_36 rfl rfl ?_
          refine V_get x 0 0 3 hinX0 rfl rfl (by decide) flX0_22 rfl dX0_newState_37 ?_
          refine V_iload_n x 2 dX0_newState_40 rfl rfl ?_
          refine V_bipush (v := nI 8) x dX0_newState_41 (by decide +kernel) ?_
          refine V_imul x (nI (k * 8)) dX0_newState_43 (pk_mul _ _) ?_
          refine V_bipush (v := nI 8) x dX0_newState_44 (by decide +kernel) ?_
          refine V_copy x 5 4 oN wn tg 0 (k * 8) 8 [(ha, .inr (0, [.ref sa, .ref sm, .ref sc, .ref sg, .ref sn, .ref ap])), (sa, .inl (cI, 211, .inl (fun i => nI (so i)))), (sm, .inl (cI, 211, .inl (fun i => nI (mb i)))), (sc, .inl (cZ, 211, .inl (fun i => bI ((va_up ac k b) i)))), (sg, .inl (cI, 1688, .inl (fun i => oN ((va_cpy wn tg 0 (k * 8) 8) i)))), (sn, .inl (cI, 8, .inl (fun i => oN (wn i)))), (ap, .inl (cI, 8, .inl (fun i => nI (pa i))))] mlX0_69 ac_na ac_st ac_in rfl rfl rfl (by omega) (by omega) (by omega) (by omega) ⟨Nat.le_of_ble_eq_true rfl, Nat.le_of_ble_eq_true rfl⟩ dX0_newState_46 rfl ?_
          refine V_iload_n x 2 dX0_newState_49 rfl rfl ?_
          exact hret _ _ dX0_newState_50
        · skip
          refine V_iinc x 2 2 [(2, .int (nI (k + 1))), (0, .ref ha), (1, .int (bI b))] dX0_newState_18 rfl (iinc_1 _) (by decide) rfl ?_
          refine V_goto x 2 dX0_newState_21 rfl ?_
          refine V.sub [1, 2, 0] (lv' := [(0, .ref ha), (1, .int (bI b)), (2, .int (nI ((k + 1))))]) rfl ?_
          exact ih2 (210 - (k + 1)) (by omega) (k + 1) (by omega) (by rw [← e1, show 210 - k = (210 - (k + 1)) + 1 by omega, fcl_next ⟨by omega, by omega⟩]) rfl
  refine V.sub [1, 2, 0] (lv' := [(0, .ref ha), (1, .int (bI b)), (2, .int (nI 0))]) rfl ?_
  exact L2 _ 0 (by omega) rfl rfl
set_option maxHeartbeats 4000000 in
set_option maxRecDepth 100000 in
theorem c_join (l : Launch) (D : va_G) (cI cZ cC cJ : ClassId) (ha sa sm sc sg sn ap ht tc tw tf tb tl ts tq : Nat) (so : Nat → Nat) (mb : Nat → Nat) (ac : Nat → Bool) (tg : Nat → Option Nat) (wn : Nat → Option Nat) (pa : Nat → Nat) (ch : Nat → Option Nat) (wh : Nat → Bool) (hf : Nat → Nat) (hb : Nat → Nat) (ln : Nat → Nat) (sw : Nat → Option Nat) (od : Nat → Nat) (p : Nat) (hrg : rg ch) (hso : ∀ i, so i < 211) (htg : rg tg) (hwn : rg wn) (hmb : ∀ i, mb i < 1000) (hp : p < 211) : CV l yX0_join wsX0_join { frames := 2, cells := 0, slots := 0, locals := 62 } D vwCl (tys4 cI cZ cC cJ) [.ref ha, .int (nI p), .ref ht] [(ha, .inr (0, [.ref sa, .ref sm, .ref sc, .ref sg, .ref sn, .ref ap])), (sa, .inl (cI, 211, .inl (fun i => nI (so i)))), (sm, .inl (cI, 211, .inl (fun i => nI (mb i)))), (sc, .inl (cZ, 211, .inl (fun i => bI (ac i)))), (sg, .inl (cI, 1688, .inl (fun i => oN (tg i)))), (sn, .inl (cI, 8, .inl (fun i => oN (wn i)))), (ap, .inl (cI, 8, .inl (fun i => nI (pa i)))), (ht, .inr (5, [.ref tc, .ref tw, .ref tf, .ref tb, .ref tl, .ref ts, .ref tq])), (tc, .inl (cI, 1688, .inl (fun i => oN (ch i)))), (tw, .inl (cZ, 211, .inl (fun i => bI (wh i)))), (tf, .inl (cI, 211, .inl (fun i => nI (hf i)))), (tb, .inl (cI, 211, .inl (fun i => nI (hb i)))), (tl, .inl (cI, 211, .inl (fun i => nI (ln i)))), (ts, .inl (cI, 211, .inl (fun i => oN (sw i)))), (tq, .inl (cI, 211, .inl (fun i => nI (od i))))] [(ha, .inr (0, [.ref sa, .ref sm, .ref sc, .ref sg, .ref sn, .ref ap])), (sa, .inl (cI, 211, .inl (fun i => nI (((jnS ch wh p (so, mb, ac, tg, wn)).1) i)))), (sm, .inl (cI, 211, .inl (fun i => nI (((jnS ch wh p (so, mb, ac, tg, wn)).2.1) i)))), (sc, .inl (cZ, 211, .inl (fun i => bI (((jnS ch wh p (so, mb, ac, tg, wn)).2.2.1) i)))), (sg, .inl (cI, 1688, .inl (fun i => oN (((jnS ch wh p (so, mb, ac, tg, wn)).2.2.2.1) i)))), (sn, .inl (cI, 8, .inl (fun i => oN (((jnS ch wh p (so, mb, ac, tg, wn)).2.2.2.2) i)))), (ap, .inl (cI, 8, .inl (fun i => nI (pa i)))), (ht, .inr (5, [.ref tc, .ref tw, .ref tf, .ref tb, .ref tl, .ref ts, .ref tq])), (tc, .inl (cI, 1688, .inl (fun i => oN (ch i)))), (tw, .inl (cZ, 211, .inl (fun i => bI (wh i)))), (tf, .inl (cI, 211, .inl (fun i => nI (hf i)))), (tb, .inl (cI, 211, .inl (fun i => nI (hb i)))), (tl, .inl (cI, 211, .inl (fun i => nI (ln i)))), (ts, .inl (cI, 211, .inl (fun i => oN (sw i)))), (tq, .inl (cI, 211, .inl (fun i => nI (od i))))] := by
  refine CV.ofV (by decide +kernel) rfl (Nat.le_of_ble_eq_true rfl) ?_
  intro κ x hret
  refine V_iconst (v := nI 0) x dX0_join_0 (by decide +kernel) ?_
  refine V_istore_n x 3 [(3, .int (nI 0)), (0, .ref ha), (1, .int (nI p)), (2, .ref ht)] dX0_join_1 rfl (by decide) rfl ?_
  have L2 : ∀ (k2 : Nat) (k : Nat) (wn1 : Nat → Option Nat) (hk : k ≤ 8) (hw1 : rg wn1) (e1 : jw ch so p wn k = wn1) (hk2 : 8 - k = k2), V κ 0 0 [(ha, .inr (0, [.ref sa, .ref sm, .ref sc, .ref sg, .ref sn, .ref ap])), (sa, .inl (cI, 211, .inl (fun i => nI (so i)))), (sm, .inl (cI, 211, .inl (fun i => nI (mb i)))), (sc, .inl (cZ, 211, .inl (fun i => bI (ac i)))), (sg, .inl (cI, 1688, .inl (fun i => oN (tg i)))), (sn, .inl (cI, 8, .inl (fun i => oN (wn1 i)))), (ap, .inl (cI, 8, .inl (fun i => nI (pa i)))), (ht, .inr (5, [.ref tc, .ref tw, .ref tf, .ref tb, .ref tl, .ref ts, .ref tq])), (tc, .inl (cI, 1688, .inl (fun i => oN (ch i)))), (tw, .inl (cZ, 211, .inl (fun i => bI (wh i)))), (tf, .inl (cI, 211, .inl (fun i => nI (hf i)))), (tb, .inl (cI, 211, .inl (fun i => nI (hb i)))), (tl, .inl (cI, 211, .inl (fun i => nI (ln i)))), (ts, .inl (cI, 211, .inl (fun i => oN (sw i)))), (tq, .inl (cI, 211, .inl (fun i => nI (od i))))] 2 [(0, .ref ha), (1, .int (nI p)), (2, .ref ht), (3, .int (nI k))] [] := by
    intro k2
    induction k2 using Nat.strongRecOn with
    | ind k2 ih2 =>
      intro k wn1 hk hw1 e1 hk2
      refine V_iload_n x 3 dX0_join_2 rfl rfl ?_
      refine V_bipush (v := nI 8) x dX0_join_3 (by decide +kernel) ?_
      refine V_icmp_geN x 45 dX0_join_5 rfl (fun t5 => ?_) (fun f5 => ?_)
      · skip
        obtain rfl : k = 8 := by omega
        refine V_aload_n x 2 dX0_join_45 rfl rfl ?_
        refine V_iload_n x 1 dX0_join_46 rfl rfl ?_
        refine V_callVi x (c_isHeld l D cI cZ cC cJ ht tc tw tf tb tl ts tq ch wh hf hb ln sw od (some p) (fun z hz => by cases hz; exact hp)) 1 (gdV mlX0_55 imX5_isHeld seX5_isHeld inX5 coX5_isHeld) rfl hdX5_isHeld ⟨Nat.le_of_ble_eq_true rfl, Nat.le_of_ble_eq_true rfl⟩ ⟨rfl, rfl⟩ 7 rfl rfl rfl [7, 8, 9, 10, 11, 12, 13, 14] [(ha, .inr (0, [.ref sa, .ref sm, .ref sc, .ref sg, .ref sn, .ref ap])), (sa, .inl (cI, 211, .inl (fun i => nI (so i)))), (sm, .inl (cI, 211, .inl (fun i => nI (mb i)))), (sc, .inl (cZ, 211, .inl (fun i => bI (ac i)))), (sg, .inl (cI, 1688, .inl (fun i => oN (tg i)))), (sn, .inl (cI, 8, .inl (fun i => oN (wn1 i)))), (ap, .inl (cI, 8, .inl (fun i => nI (pa i)))), (ht, .inr (5, [.ref tc, .ref tw, .ref tf, .ref tb, .ref tl, .ref ts, .ref tq])), (tc, .inl (cI, 1688, .inl (fun i => oN (ch i)))), (tw, .inl (cZ, 211, .inl (fun i => bI (wh i)))), (tf, .inl (cI, 211, .inl (fun i => nI (hf i)))), (tb, .inl (cI, 211, .inl (fun i => nI (hb i)))), (tl, .inl (cI, 211, .inl (fun i => nI (ln i)))), (ts, .inl (cI, 211, .inl (fun i => oN (sw i)))), (tq, .inl (cI, 211, .inl (fun i => nI (od i))))] rfl rfl [ht, tc, tw, tf, tb, tl, ts, tq] rfl rfl [none, none, none, none, none, none, none, some 0, some 1, some 2, some 3, some 4, some 5, some 6, some 7] rfl rfl (rest := []) rfl (Nat.le_of_ble_eq_true rfl) dX0_join_47 ⟨Nat.zero_le _, Nat.zero_le _⟩ ?_
        refine V.ci (x' := bI (wh p)) rfl ?_
        refine V_istore_n x 3 [(3, .int (bI (wh p))), (0, .ref ha), (1, .int (nI p)), (2, .ref ht)] dX0_join_50 rfl (by decide) rfl ?_
        refine V_aload_n x 0 dX0_join_51 rfl rfl ?_
        refine V_iload_n x 3 dX0_join_52 rfl rfl ?_
        refine V_callVi x (c_wanted l D cI cZ cC cJ ha sa sm sc sg sn ap so mb ac tg wn1 pa (wh p) (by first | omega | assumption) hw1 (by first | omega | assumption)) 1 (gdV mlX0_59 imX0_wantedState seX0_wantedState inX0 coX0_wantedState) rfl hdX0_wantedState ⟨Nat.le_of_ble_eq_true rfl, Nat.le_of_ble_eq_true rfl⟩ ⟨rfl, rfl⟩ 0 rfl rfl rfl [0, 1, 2, 3, 4, 5, 6] [(ha, .inr (0, [.ref sa, .ref sm, .ref sc, .ref sg, .ref sn, .ref ap])), (sa, .inl (cI, 211, .inl (fun i => nI (so i)))), (sm, .inl (cI, 211, .inl (fun i => nI (mb i)))), (sc, .inl (cZ, 211, .inl (fun i => bI (ac i)))), (sg, .inl (cI, 1688, .inl (fun i => oN (tg i)))), (sn, .inl (cI, 8, .inl (fun i => oN (wn1 i)))), (ap, .inl (cI, 8, .inl (fun i => nI (pa i)))), (ht, .inr (5, [.ref tc, .ref tw, .ref tf, .ref tb, .ref tl, .ref ts, .ref tq])), (tc, .inl (cI, 1688, .inl (fun i => oN (ch i)))), (tw, .inl (cZ, 211, .inl (fun i => bI (wh i)))), (tf, .inl (cI, 211, .inl (fun i => nI (hf i)))), (tb, .inl (cI, 211, .inl (fun i => nI (hb i)))), (tl, .inl (cI, 211, .inl (fun i => nI (ln i)))), (ts, .inl (cI, 211, .inl (fun i => oN (sw i)))), (tq, .inl (cI, 211, .inl (fun i => nI (od i))))] rfl rfl [ha, sa, sm, sc, sg, sn, ap] rfl rfl [some 0, some 1, some 2, some 3, some 4, some 5, some 6] rfl rfl (rest := []) rfl (Nat.le_of_ble_eq_true rfl) dX0_join_53 ⟨Nat.zero_le _, Nat.zero_le _⟩ ?_
        refine V_istore x 4 [(4, .int (oN (wst mb ac tg wn1 (wh p) 211 0))), (3, .int (bI (wh p))), (0, .ref ha), (1, .int (nI p)), (2, .ref ht)] dX0_join_56 (by decide) rfl ?_
        refine V_iload x 4 dX0_join_58 rfl ?_
        refine V_iconst (v := (-1)) x dX0_join_60 (by decide +kernel) ?_
        refine V_icmp_neO x 71 dX0_join_61 rfl (fun z hz => by have := wst_lt hz; omega) (fun z61 t61 => ?_) (fun f61 => ?_)
        · skip
          simp only [t61, oN_some]
          refine V_aload_n x 0 dX0_join_71 rfl rfl ?_
          refine V_get x 0 0 1 hinX0 rfl rfl (by decide) flX0_15 rfl dX0_join_72 ?_
          refine V_iload x 4 dX0_join_75 rfl ?_
          refine V_dup2 x dX0_join_77 rfl rfl ?_
          refine V_iald x 2 0 rfl rfl dX0_join_78 (by first | (have := wst_lt t61; omega) | (have := fcl_le0 mb 210 0 (by omega); omega)) (by omega) ?_
          refine V_iconst (v := nI 1) x dX0_join_79 (by decide +kernel) ?_
          refine V_iadd x (nI ((mb z61) + 1)) dX0_join_80 (nI_add _ _) ?_
          refine V_iast x 2 0 nI mb ((mb z61) + 1) [(ha, .inr (0, [.ref sa, .ref sm, .ref sc, .ref sg, .ref sn, .ref ap])), (sa, .inl (cI, 211, .inl (fun i => nI (so i)))), (sm, .inl (cI, 211, .inl (fun i => nI ((va_up mb z61 ((mb z61) + 1)) i)))), (sc, .inl (cZ, 211, .inl (fun i => bI (ac i)))), (sg, .inl (cI, 1688, .inl (fun i => oN (tg i)))), (sn, .inl (cI, 8, .inl (fun i => oN (wn1 i)))), (ap, .inl (cI, 8, .inl (fun i => nI (pa i)))), (ht, .inr (5, [.ref tc, .ref tw, .ref tf, .ref tb, .ref tl, .ref ts, .ref tq])), (tc, .inl (cI, 1688, .inl (fun i => oN (ch i)))), (tw, .inl (cZ, 211, .inl (fun i => bI (wh i)))), (tf, .inl (cI, 211, .inl (fun i => nI (hf i)))), (tb, .inl (cI, 211, .inl (fun i => nI (hb i)))), (tl, .inl (cI, 211, .inl (fun i => nI (ln i)))), (ts, .inl (cI, 211, .inl (fun i => oN (sw i)))), (tq, .inl (cI, 211, .inl (fun i => nI (od i))))] rfl rfl dX0_join_81 (by first | (have := wst_lt t61; omega) | (have := fcl_le0 mb 210 0 (by omega); omega)) (by omega) rfl ?_
          refine V_aload_n x 0 dX0_join_82 rfl rfl ?_
          refine V_get x 0 0 0 hinX0 rfl rfl (by decide) flX0_9 rfl dX0_join_83 ?_
          refine V_iload_n x 1 dX0_join_86 rfl rfl ?_
          refine V_iload x 4 dX0_join_87 rfl ?_
          refine V_iast x 1 0 nI so z61 [(ha, .inr (0, [.ref sa, .ref sm, .ref sc, .ref sg, .ref sn, .ref ap])), (sa, .inl (cI, 211, .inl (fun i => nI ((va_up so p z61) i)))), (sm, .inl (cI, 211, .inl (fun i => nI ((va_up mb z61 ((mb z61) + 1)) i)))), (sc, .inl (cZ, 211, .inl (fun i => bI (ac i)))), (sg, .inl (cI, 1688, .inl (fun i => oN (tg i)))), (sn, .inl (cI, 8, .inl (fun i => oN (wn1 i)))), (ap, .inl (cI, 8, .inl (fun i => nI (pa i)))), (ht, .inr (5, [.ref tc, .ref tw, .ref tf, .ref tb, .ref tl, .ref ts, .ref tq])), (tc, .inl (cI, 1688, .inl (fun i => oN (ch i)))), (tw, .inl (cZ, 211, .inl (fun i => bI (wh i)))), (tf, .inl (cI, 211, .inl (fun i => nI (hf i)))), (tb, .inl (cI, 211, .inl (fun i => nI (hb i)))), (tl, .inl (cI, 211, .inl (fun i => nI (ln i)))), (ts, .inl (cI, 211, .inl (fun i => oN (sw i)))), (tq, .inl (cI, 211, .inl (fun i => nI (od i))))] rfl rfl dX0_join_89 (by omega) (by omega) rfl ?_
          first
          | (rw [show jnS ch wh p (so, mb, ac, tg, wn) = (va_up so p z61, va_up mb z61 (mb z61 + 1), ac, tg, wn1) by simp only [jnS, e1, t61]] at hret)
          | (rw [show jnS ch wh p (so, mb, ac, tg, wn) = (va_up so p (fcl mb 210 0), va_up mb (fcl mb 210 0) (mb (fcl mb 210 0) + 1), va_up ac (fcl mb 210 0) (wh p), va_cpy wn1 tg 0 (fcl mb 210 0 * 8) 8, wn1) by simp only [jnS, e1, f61]] at hret)
          exact hret _ _ dX0_join_90
        · skip
          simp only [f61, oN_none]
          refine V_aload_n x 0 dX0_join_64 rfl rfl ?_
          refine V_iload_n x 3 dX0_join_65 rfl rfl ?_
          refine V_callVi x (c_newState l D cI cZ cC cJ ha sa sm sc sg sn ap so mb ac tg wn1 pa (wh p) (by first | omega | assumption)) 1 (gdV mlX0_63 imX0_newState seX0_newState inX0 coX0_newState) rfl hdX0_newState ⟨Nat.le_of_ble_eq_true rfl, Nat.le_of_ble_eq_true rfl⟩ ⟨rfl, rfl⟩ 0 rfl rfl rfl [0, 1, 2, 3, 4, 5, 6] [(ha, .inr (0, [.ref sa, .ref sm, .ref sc, .ref sg, .ref sn, .ref ap])), (sa, .inl (cI, 211, .inl (fun i => nI (so i)))), (sm, .inl (cI, 211, .inl (fun i => nI (mb i)))), (sc, .inl (cZ, 211, .inl (fun i => bI ((va_up ac (fcl mb 210 0) (wh p)) i)))), (sg, .inl (cI, 1688, .inl (fun i => oN ((va_cpy wn1 tg 0 (fcl mb 210 0 * 8) 8) i)))), (sn, .inl (cI, 8, .inl (fun i => oN (wn1 i)))), (ap, .inl (cI, 8, .inl (fun i => nI (pa i)))), (ht, .inr (5, [.ref tc, .ref tw, .ref tf, .ref tb, .ref tl, .ref ts, .ref tq])), (tc, .inl (cI, 1688, .inl (fun i => oN (ch i)))), (tw, .inl (cZ, 211, .inl (fun i => bI (wh i)))), (tf, .inl (cI, 211, .inl (fun i => nI (hf i)))), (tb, .inl (cI, 211, .inl (fun i => nI (hb i)))), (tl, .inl (cI, 211, .inl (fun i => nI (ln i)))), (ts, .inl (cI, 211, .inl (fun i => oN (sw i)))), (tq, .inl (cI, 211, .inl (fun i => nI (od i))))] rfl rfl [ha, sa, sm, sc, sg, sn, ap] rfl rfl [some 0, some 1, some 2, some 3, some 4, some 5, some 6] rfl rfl (rest := []) rfl (Nat.le_of_ble_eq_true rfl) dX0_join_66 ⟨Nat.zero_le _, Nat.zero_le _⟩ ?_
          refine V_istore x 4 [(4, .int (nI (fcl mb 210 0))), (3, .int (bI (wh p))), (0, .ref ha), (1, .int (nI p)), (2, .ref ht)] dX0_join_69 (by decide) rfl ?_
          refine V_aload_n x 0 dX0_join_71 rfl rfl ?_
          refine V_get x 0 0 1 hinX0 rfl rfl (by decide) flX0_15 rfl dX0_join_72 ?_
          refine V_iload x 4 dX0_join_75 rfl ?_
          refine V_dup2 x dX0_join_77 rfl rfl ?_
          refine V_iald x 2 0 rfl rfl dX0_join_78 (by first | (have := wst_lt t61; omega) | (have := fcl_le0 mb 210 0 (by omega); omega)) (by omega) ?_
          refine V_iconst (v := nI 1) x dX0_join_79 (by decide +kernel) ?_
          refine V_iadd x (nI ((mb (fcl mb 210 0)) + 1)) dX0_join_80 (nI_add _ _) ?_
          refine V_iast x 2 0 nI mb ((mb (fcl mb 210 0)) + 1) [(ha, .inr (0, [.ref sa, .ref sm, .ref sc, .ref sg, .ref sn, .ref ap])), (sa, .inl (cI, 211, .inl (fun i => nI (so i)))), (sm, .inl (cI, 211, .inl (fun i => nI ((va_up mb (fcl mb 210 0) ((mb (fcl mb 210 0)) + 1)) i)))), (sc, .inl (cZ, 211, .inl (fun i => bI ((va_up ac (fcl mb 210 0) (wh p)) i)))), (sg, .inl (cI, 1688, .inl (fun i => oN ((va_cpy wn1 tg 0 (fcl mb 210 0 * 8) 8) i)))), (sn, .inl (cI, 8, .inl (fun i => oN (wn1 i)))), (ap, .inl (cI, 8, .inl (fun i => nI (pa i)))), (ht, .inr (5, [.ref tc, .ref tw, .ref tf, .ref tb, .ref tl, .ref ts, .ref tq])), (tc, .inl (cI, 1688, .inl (fun i => oN (ch i)))), (tw, .inl (cZ, 211, .inl (fun i => bI (wh i)))), (tf, .inl (cI, 211, .inl (fun i => nI (hf i)))), (tb, .inl (cI, 211, .inl (fun i => nI (hb i)))), (tl, .inl (cI, 211, .inl (fun i => nI (ln i)))), (ts, .inl (cI, 211, .inl (fun i => oN (sw i)))), (tq, .inl (cI, 211, .inl (fun i => nI (od i))))] rfl rfl dX0_join_81 (by first | (have := wst_lt t61; omega) | (have := fcl_le0 mb 210 0 (by omega); omega)) (by omega) rfl ?_
          refine V_aload_n x 0 dX0_join_82 rfl rfl ?_
          refine V_get x 0 0 0 hinX0 rfl rfl (by decide) flX0_9 rfl dX0_join_83 ?_
          refine V_iload_n x 1 dX0_join_86 rfl rfl ?_
          refine V_iload x 4 dX0_join_87 rfl ?_
          refine V_iast x 1 0 nI so (fcl mb 210 0) [(ha, .inr (0, [.ref sa, .ref sm, .ref sc, .ref sg, .ref sn, .ref ap])), (sa, .inl (cI, 211, .inl (fun i => nI ((va_up so p (fcl mb 210 0)) i)))), (sm, .inl (cI, 211, .inl (fun i => nI ((va_up mb (fcl mb 210 0) ((mb (fcl mb 210 0)) + 1)) i)))), (sc, .inl (cZ, 211, .inl (fun i => bI ((va_up ac (fcl mb 210 0) (wh p)) i)))), (sg, .inl (cI, 1688, .inl (fun i => oN ((va_cpy wn1 tg 0 (fcl mb 210 0 * 8) 8) i)))), (sn, .inl (cI, 8, .inl (fun i => oN (wn1 i)))), (ap, .inl (cI, 8, .inl (fun i => nI (pa i)))), (ht, .inr (5, [.ref tc, .ref tw, .ref tf, .ref tb, .ref tl, .ref ts, .ref tq])), (tc, .inl (cI, 1688, .inl (fun i => oN (ch i)))), (tw, .inl (cZ, 211, .inl (fun i => bI (wh i)))), (tf, .inl (cI, 211, .inl (fun i => nI (hf i)))), (tb, .inl (cI, 211, .inl (fun i => nI (hb i)))), (tl, .inl (cI, 211, .inl (fun i => nI (ln i)))), (ts, .inl (cI, 211, .inl (fun i => oN (sw i)))), (tq, .inl (cI, 211, .inl (fun i => nI (od i))))] rfl rfl dX0_join_89 (by omega) (by omega) rfl ?_
          first
          | (rw [show jnS ch wh p (so, mb, ac, tg, wn) = (va_up so p z61, va_up mb z61 (mb z61 + 1), ac, tg, wn1) by simp only [jnS, e1, t61]] at hret)
          | (rw [show jnS ch wh p (so, mb, ac, tg, wn) = (va_up so p (fcl mb 210 0), va_up mb (fcl mb 210 0) (mb (fcl mb 210 0) + 1), va_up ac (fcl mb 210 0) (wh p), va_cpy wn1 tg 0 (fcl mb 210 0 * 8) 8, wn1) by simp only [jnS, e1, f61]] at hret)
          exact hret _ _ dX0_join_90
      · skip
        refine V_aload_n x 2 dX0_join_8 rfl rfl ?_
        refine V_iload_n x 1 dX0_join_9 rfl rfl ?_
        refine V_iload_n x 3 dX0_join_10 rfl rfl ?_
        refine V_callVi x (c_child l D cI cZ cC cJ ht tc tw tf tb tl ts tq ch wh hf hb ln sw od p k (by first | omega | assumption) (by first | omega | assumption)) 2 (gdV mlX0_51 imX5_child seX5_child inX5 coX5_child) rfl hdX5_child ⟨Nat.le_of_ble_eq_true rfl, Nat.le_of_ble_eq_true rfl⟩ ⟨rfl, rfl⟩ 7 rfl rfl rfl [7, 8, 9, 10, 11, 12, 13, 14] [(ha, .inr (0, [.ref sa, .ref sm, .ref sc, .ref sg, .ref sn, .ref ap])), (sa, .inl (cI, 211, .inl (fun i => nI (so i)))), (sm, .inl (cI, 211, .inl (fun i => nI (mb i)))), (sc, .inl (cZ, 211, .inl (fun i => bI (ac i)))), (sg, .inl (cI, 1688, .inl (fun i => oN (tg i)))), (sn, .inl (cI, 8, .inl (fun i => oN (wn1 i)))), (ap, .inl (cI, 8, .inl (fun i => nI (pa i)))), (ht, .inr (5, [.ref tc, .ref tw, .ref tf, .ref tb, .ref tl, .ref ts, .ref tq])), (tc, .inl (cI, 1688, .inl (fun i => oN (ch i)))), (tw, .inl (cZ, 211, .inl (fun i => bI (wh i)))), (tf, .inl (cI, 211, .inl (fun i => nI (hf i)))), (tb, .inl (cI, 211, .inl (fun i => nI (hb i)))), (tl, .inl (cI, 211, .inl (fun i => nI (ln i)))), (ts, .inl (cI, 211, .inl (fun i => oN (sw i)))), (tq, .inl (cI, 211, .inl (fun i => nI (od i))))] rfl rfl [ht, tc, tw, tf, tb, tl, ts, tq] rfl rfl [none, none, none, none, none, none, none, some 0, some 1, some 2, some 3, some 4, some 5, some 6, some 7] rfl rfl (rest := []) rfl (Nat.le_of_ble_eq_true rfl) dX0_join_11 ⟨Nat.zero_le _, Nat.zero_le _⟩ ?_
        refine V_istore x 4 [(4, .int (oN (ch (p * 8 + k)))), (0, .ref ha), (1, .int (nI p)), (2, .ref ht), (3, .int (nI k))] dX0_join_14 (by decide) rfl ?_
        refine V_aload_n x 0 dX0_join_16 rfl rfl ?_
        refine V_get x 0 0 4 hinX0 rfl rfl (by decide) flX0_25 rfl dX0_join_17 ?_
        refine V_iload_n x 3 dX0_join_20 rfl rfl ?_
        refine V_iload x 4 dX0_join_21 rfl ?_
        refine V_iconst (v := (-1)) x dX0_join_23 (by decide +kernel) ?_
        have J38 : V κ 0 0 [(ha, .inr (0, [.ref sa, .ref sm, .ref sc, .ref sg, .ref sn, .ref ap])), (sa, .inl (cI, 211, .inl (fun i => nI (so i)))), (sm, .inl (cI, 211, .inl (fun i => nI (mb i)))), (sc, .inl (cZ, 211, .inl (fun i => bI (ac i)))), (sg, .inl (cI, 1688, .inl (fun i => oN (tg i)))), (sn, .inl (cI, 8, .inl (fun i => oN (wn1 i)))), (ap, .inl (cI, 8, .inl (fun i => nI (pa i)))), (ht, .inr (5, [.ref tc, .ref tw, .ref tf, .ref tb, .ref tl, .ref ts, .ref tq])), (tc, .inl (cI, 1688, .inl (fun i => oN (ch i)))), (tw, .inl (cZ, 211, .inl (fun i => bI (wh i)))), (tf, .inl (cI, 211, .inl (fun i => nI (hf i)))), (tb, .inl (cI, 211, .inl (fun i => nI (hb i)))), (tl, .inl (cI, 211, .inl (fun i => nI (ln i)))), (ts, .inl (cI, 211, .inl (fun i => oN (sw i)))), (tq, .inl (cI, 211, .inl (fun i => nI (od i))))] 38 [(0, .ref ha), (1, .int (nI p)), (2, .ref ht), (3, .int (nI k))] [.int (oN ((ch (p * 8 + k)).map so)), .int (nI k), .ref sn] := by
          refine V_iast x 5 0 oN wn1 ((ch (p * 8 + k)).map so) [(ha, .inr (0, [.ref sa, .ref sm, .ref sc, .ref sg, .ref sn, .ref ap])), (sa, .inl (cI, 211, .inl (fun i => nI (so i)))), (sm, .inl (cI, 211, .inl (fun i => nI (mb i)))), (sc, .inl (cZ, 211, .inl (fun i => bI (ac i)))), (sg, .inl (cI, 1688, .inl (fun i => oN (tg i)))), (sn, .inl (cI, 8, .inl (fun i => oN ((va_up wn1 k ((ch (p * 8 + k)).map so)) i)))), (ap, .inl (cI, 8, .inl (fun i => nI (pa i)))), (ht, .inr (5, [.ref tc, .ref tw, .ref tf, .ref tb, .ref tl, .ref ts, .ref tq])), (tc, .inl (cI, 1688, .inl (fun i => oN (ch i)))), (tw, .inl (cZ, 211, .inl (fun i => bI (wh i)))), (tf, .inl (cI, 211, .inl (fun i => nI (hf i)))), (tb, .inl (cI, 211, .inl (fun i => nI (hb i)))), (tl, .inl (cI, 211, .inl (fun i => nI (ln i)))), (ts, .inl (cI, 211, .inl (fun i => oN (sw i)))), (tq, .inl (cI, 211, .inl (fun i => nI (od i))))] rfl rfl dX0_join_38 (by omega) (by omega) rfl ?_
          refine V_iinc x 3 3 [(3, .int (nI (k + 1))), (0, .ref ha), (1, .int (nI p)), (2, .ref ht)] dX0_join_39 rfl (iinc_1 _) (by decide) rfl ?_
          refine V_goto x 2 dX0_join_42 rfl ?_
          refine V.sub [1, 2, 3, 0] (lv' := [(0, .ref ha), (1, .int (nI p)), (2, .ref ht), (3, .int (nI ((k + 1))))]) rfl ?_
          exact ih2 (8 - (k + 1)) (by omega) (k + 1) (va_up wn1 k ((ch (p * 8 + k)).map so)) (by omega) (rg_map hw1 hso) (by rw [jw, e1]) rfl
        refine V_icmp_neO x 31 dX0_join_24 rfl (fun z hz => lt31 (hrg _ _ hz)) (fun z24 t24 => ?_) (fun f24 => ?_)
        · skip
          simp only [t24, oN_some]
          refine V_aload_n x 0 dX0_join_31 rfl rfl ?_
          refine V_get x 0 0 0 hinX0 rfl rfl (by decide) flX0_9 rfl dX0_join_32 ?_
          refine V_iload x 4 dX0_join_35 rfl ?_
          refine V_iald x 1 0 rfl rfl dX0_join_37 (hrg _ _ t24) (by omega) ?_
          refine V.sub [1, 2, 3, 4] (lv' := [(0, .ref ha), (1, .int (nI p)), (2, .ref ht), (3, .int (nI k))]) rfl ?_
          refine V.ci (x' := oN ((ch (p * 8 + k)).map so)) (by first | (rw [f24]; rfl) | (rw [t24]; rfl)) ?_
          exact J38
        · skip
          simp only [f24, oN_none]
          refine V_iconst (v := (-1)) x dX0_join_27 (by decide +kernel) ?_
          refine V_goto x 38 dX0_join_28 rfl ?_
          refine V.sub [1, 2, 3, 4] (lv' := [(0, .ref ha), (1, .int (nI p)), (2, .ref ht), (3, .int (nI k))]) rfl ?_
          refine V.ci (x' := oN ((ch (p * 8 + k)).map so)) (by first | (rw [f24]; rfl) | (rw [t24]; rfl)) ?_
          exact J38
  refine V.sub [1, 2, 3, 0] (lv' := [(0, .ref ha), (1, .int (nI p)), (2, .ref ht), (3, .int (nI 0))]) rfl ?_
  exact L2 _ 0 wn (by omega) hwn rfl rfl
set_option maxHeartbeats 4000000 in
set_option maxRecDepth 100000 in
theorem c_receive (l : Launch) (D : va_G) (cI cZ cC cJ : ClassId) (ha sa sm sc sg sn ap hr ar ht tc tw tf tb tl ts tq : Nat) (so : Nat → Nat) (mb : Nat → Nat) (ac : Nat → Bool) (tg : Nat → Option Nat) (wn : Nat → Option Nat) (pa : Nat → Nat) (m : Nat) (tx : Nat → Nat) (n : Nat) (ch : Nat → Option Nat) (wh : Nat → Bool) (hf : Nat → Nat) (hb : Nat → Nat) (ln : Nat → Nat) (sw : Nat → Option Nat) (od : Nat → Nat) (hrg : rg ch) (hn : n ≤ m) (hm : m < 1000) (htx : ∀ i, tx i < 65536) (hso : ∀ i, so i < 211) (htg : rg tg) (hwn : rg wn) (hmb : ∀ i, mb i ≤ 500) (hpa : ∀ i, pa i < 211) : CV l yX0_receive wsX0_receive { frames := 3, cells := 0, slots := 0, locals := 86 } D vwCl (tys4 cI cZ cC cJ) [.ref ha, .ref hr, .ref ht] [(ha, .inr (0, [.ref sa, .ref sm, .ref sc, .ref sg, .ref sn, .ref ap])), (sa, .inl (cI, 211, .inl (fun i => nI (so i)))), (sm, .inl (cI, 211, .inl (fun i => nI (mb i)))), (sc, .inl (cZ, 211, .inl (fun i => bI (ac i)))), (sg, .inl (cI, 1688, .inl (fun i => oN (tg i)))), (sn, .inl (cI, 8, .inl (fun i => oN (wn i)))), (ap, .inl (cI, 8, .inl (fun i => nI (pa i)))), (hr, .inr (2, [.ref ar, .int (nI n)])), (ar, .inl (cC, m, .inl (fun i => nI (tx i)))), (ht, .inr (5, [.ref tc, .ref tw, .ref tf, .ref tb, .ref tl, .ref ts, .ref tq])), (tc, .inl (cI, 1688, .inl (fun i => oN (ch i)))), (tw, .inl (cZ, 211, .inl (fun i => bI (wh i)))), (tf, .inl (cI, 211, .inl (fun i => nI (hf i)))), (tb, .inl (cI, 211, .inl (fun i => nI (hb i)))), (tl, .inl (cI, 211, .inl (fun i => nI (ln i)))), (ts, .inl (cI, 211, .inl (fun i => oN (sw i)))), (tq, .inl (cI, 211, .inl (fun i => nI (od i))))] [(ha, .inr (0, [.ref sa, .ref sm, .ref sc, .ref sg, .ref sn, .ref ap])), (sa, .inl (cI, 211, .inl (fun i => nI (((rcv ch wh (trp ch tx n pa n8) (trc ch tx n n8) (so, mb, ac, tg, wn) (trc ch tx n n8)).1) i)))), (sm, .inl (cI, 211, .inl (fun i => nI (((rcv ch wh (trp ch tx n pa n8) (trc ch tx n n8) (so, mb, ac, tg, wn) (trc ch tx n n8)).2.1) i)))), (sc, .inl (cZ, 211, .inl (fun i => bI (((rcv ch wh (trp ch tx n pa n8) (trc ch tx n n8) (so, mb, ac, tg, wn) (trc ch tx n n8)).2.2.1) i)))), (sg, .inl (cI, 1688, .inl (fun i => oN (((rcv ch wh (trp ch tx n pa n8) (trc ch tx n n8) (so, mb, ac, tg, wn) (trc ch tx n n8)).2.2.2.1) i)))), (sn, .inl (cI, 8, .inl (fun i => oN (((rcv ch wh (trp ch tx n pa n8) (trc ch tx n n8) (so, mb, ac, tg, wn) (trc ch tx n n8)).2.2.2.2) i)))), (ap, .inl (cI, 8, .inl (fun i => nI (((trp ch tx n pa n8)) i)))), (hr, .inr (2, [.ref ar, .int (nI n)])), (ar, .inl (cC, m, .inl (fun i => nI (tx i)))), (ht, .inr (5, [.ref tc, .ref tw, .ref tf, .ref tb, .ref tl, .ref ts, .ref tq])), (tc, .inl (cI, 1688, .inl (fun i => oN (ch i)))), (tw, .inl (cZ, 211, .inl (fun i => bI (wh i)))), (tf, .inl (cI, 211, .inl (fun i => nI (hf i)))), (tb, .inl (cI, 211, .inl (fun i => nI (hb i)))), (tl, .inl (cI, 211, .inl (fun i => nI (ln i)))), (ts, .inl (cI, 211, .inl (fun i => oN (sw i)))), (tq, .inl (cI, 211, .inl (fun i => nI (od i))))] := by
  refine CV.ofV (by decide +kernel) rfl (Nat.le_of_ble_eq_true rfl) ?_
  intro κ x hret
  refine V_aload_n x 2 dX0_receive_0 rfl rfl ?_
  refine V_aload_n x 1 dX0_receive_1 rfl rfl ?_
  refine V_aload_n x 0 dX0_receive_2 rfl rfl ?_
  refine V_get x 0 0 5 hinX0 rfl rfl (by decide) flX0_28 rfl dX0_receive_3 ?_
  refine V_callVi x (c_trace l D cI cZ cC cJ ht tc tw tf tb tl ts tq hr ar ap ch wh hf hb ln sw od m tx n pa (by first | omega | assumption) (by first | omega | assumption) (by first | omega | assumption) (by first | omega | assumption)) 2 (gdV mlX0_43 imX5_trace seX5_trace inX5 coX5_trace) rfl hdX5_trace ⟨Nat.le_of_ble_eq_true rfl, Nat.le_of_ble_eq_true rfl⟩ ⟨rfl, rfl⟩ 9 rfl rfl rfl [9, 10, 11, 12, 13, 14, 15, 16, 7, 8, 6] [(ha, .inr (0, [.ref sa, .ref sm, .ref sc, .ref sg, .ref sn, .ref ap])), (sa, .inl (cI, 211, .inl (fun i => nI (so i)))), (sm, .inl (cI, 211, .inl (fun i => nI (mb i)))), (sc, .inl (cZ, 211, .inl (fun i => bI (ac i)))), (sg, .inl (cI, 1688, .inl (fun i => oN (tg i)))), (sn, .inl (cI, 8, .inl (fun i => oN (wn i)))), (ap, .inl (cI, 8, .inl (fun i => nI ((trp ch tx n pa n8) i)))), (hr, .inr (2, [.ref ar, .int (nI n)])), (ar, .inl (cC, m, .inl (fun i => nI (tx i)))), (ht, .inr (5, [.ref tc, .ref tw, .ref tf, .ref tb, .ref tl, .ref ts, .ref tq])), (tc, .inl (cI, 1688, .inl (fun i => oN (ch i)))), (tw, .inl (cZ, 211, .inl (fun i => bI (wh i)))), (tf, .inl (cI, 211, .inl (fun i => nI (hf i)))), (tb, .inl (cI, 211, .inl (fun i => nI (hb i)))), (tl, .inl (cI, 211, .inl (fun i => nI (ln i)))), (ts, .inl (cI, 211, .inl (fun i => oN (sw i)))), (tq, .inl (cI, 211, .inl (fun i => nI (od i))))] rfl rfl [ht, tc, tw, tf, tb, tl, ts, tq, hr, ar, ap] rfl rfl [none, none, none, none, none, none, some 10, some 8, some 9, some 0, some 1, some 2, some 3, some 4, some 5, some 6, some 7] rfl rfl (rest := []) rfl (Nat.le_of_ble_eq_true rfl) dX0_receive_6 ⟨Nat.zero_le _, Nat.zero_le _⟩ ?_
  refine V_istore_n x 3 [(3, .int (nI (trc ch tx n n8))), (0, .ref ha), (1, .ref hr), (2, .ref ht)] dX0_receive_9 rfl (by decide) rfl ?_
  refine V_iload_n x 3 dX0_receive_10 rfl rfl ?_
  refine V_iconst (v := nI 1) x dX0_receive_11 (by decide +kernel) ?_
  refine V_isub x (oN (prd (trc ch tx n n8))) dX0_receive_12 (prd_sub _) ?_
  refine V_istore x 4 [(4, .int (oN (prd (trc ch tx n n8)))), (3, .int (nI (trc ch tx n n8))), (0, .ref ha), (1, .ref hr), (2, .ref ht)] dX0_receive_13 (by decide) rfl ?_
  have h8 := trc_le ch tx n n8
  have h88 := n8_eq
  have L15 : ∀ (k15 : Nat) (k : Nat) (so1 : Nat → Nat) (mb1 : Nat → Nat) (ac1 : Nat → Bool) (tg1 : Nat → Option Nat) (wn1 : Nat → Option Nat) (hk : k ≤ trc ch tx n n8) (hs1 : ∀ i, so1 i < 211) (ht1 : rg tg1) (hw1 : rg wn1) (hm1 : ∀ i, mb1 i ≤ 500 + (trc ch tx n n8 - k)) (e1 : rcv ch wh (trp ch tx n pa n8) (trc ch tx n n8) (so, mb, ac, tg, wn) (trc ch tx n n8 - k) = (so1, mb1, ac1, tg1, wn1)) (hk15 : k = k15), V κ 0 0 [(ha, .inr (0, [.ref sa, .ref sm, .ref sc, .ref sg, .ref sn, .ref ap])), (sa, .inl (cI, 211, .inl (fun i => nI (so1 i)))), (sm, .inl (cI, 211, .inl (fun i => nI (mb1 i)))), (sc, .inl (cZ, 211, .inl (fun i => bI (ac1 i)))), (sg, .inl (cI, 1688, .inl (fun i => oN (tg1 i)))), (sn, .inl (cI, 8, .inl (fun i => oN (wn1 i)))), (ap, .inl (cI, 8, .inl (fun i => nI (((trp ch tx n pa n8)) i)))), (hr, .inr (2, [.ref ar, .int (nI n)])), (ar, .inl (cC, m, .inl (fun i => nI (tx i)))), (ht, .inr (5, [.ref tc, .ref tw, .ref tf, .ref tb, .ref tl, .ref ts, .ref tq])), (tc, .inl (cI, 1688, .inl (fun i => oN (ch i)))), (tw, .inl (cZ, 211, .inl (fun i => bI (wh i)))), (tf, .inl (cI, 211, .inl (fun i => nI (hf i)))), (tb, .inl (cI, 211, .inl (fun i => nI (hb i)))), (tl, .inl (cI, 211, .inl (fun i => nI (ln i)))), (ts, .inl (cI, 211, .inl (fun i => oN (sw i)))), (tq, .inl (cI, 211, .inl (fun i => nI (od i))))] 15 [(0, .ref ha), (1, .ref hr), (2, .ref ht), (4, .int (oN (prd k)))] [] := by
    intro k15
    induction k15 using Nat.strongRecOn with
    | ind k15 ih15 =>
      intro k so1 mb1 ac1 tg1 wn1 hk hs1 ht1 hw1 hm1 e1 hk15
      have h8 := trc_le ch tx n n8
      have h88 := n8_eq
      refine V_iload x 4 dX0_receive_15 rfl ?_
      refine V_if_ltO x 38 dX0_receive_17 rfl (fun z hz => by have := prd_some hz; omega) (fun t17 => ?_) (fun z17 f17 => ?_)
      · skip
        simp only [t17, oN_none]
        obtain rfl := prd_none t17
        rw [Nat.sub_zero] at e1
        rw [e1] at hret
        exact hret _ _ dX0_receive_38
      · skip
        simp only [f17, oN_some]
        obtain rfl := prd_some f17
        refine V_aload_n x 0 dX0_receive_20 rfl rfl ?_
        refine V_aload_n x 0 dX0_receive_21 rfl rfl ?_
        refine V_get x 0 0 5 hinX0 rfl rfl (by decide) flX0_28 rfl dX0_receive_22 ?_
        refine V_iload x 4 dX0_receive_25 rfl ?_
        refine V_iald x 6 0 rfl rfl dX0_receive_27 (by omega) (by omega) ?_
        refine V_aload_n x 2 dX0_receive_28 rfl rfl ?_
        refine V_callVv x (c_join l D cI cZ cC cJ ha sa sm sc sg sn ap ht tc tw tf tb tl ts tq so1 mb1 ac1 tg1 wn1 ((trp ch tx n pa n8)) ch wh hf hb ln sw od (((trp ch tx n pa n8)) z17) (by first | omega | assumption) hs1 ht1 hw1 (fun i => by have := hm1 i; omega) (trp_lt hrg hpa n8 _)) 2 (gdV mlX0_47 imX0_join seX0_join inX0 coX0_join) rfl hdX0_join ⟨Nat.le_of_ble_eq_true rfl, Nat.le_of_ble_eq_true rfl⟩ ⟨rfl, rfl⟩ 0 rfl rfl rfl [0, 1, 2, 3, 4, 5, 6, 9, 10, 11, 12, 13, 14, 15, 16] [(ha, .inr (0, [.ref sa, .ref sm, .ref sc, .ref sg, .ref sn, .ref ap])), (sa, .inl (cI, 211, .inl (fun i => nI (((jnS ch wh (((trp ch tx n pa n8)) z17) (so1, mb1, ac1, tg1, wn1)).1) i)))), (sm, .inl (cI, 211, .inl (fun i => nI (((jnS ch wh (((trp ch tx n pa n8)) z17) (so1, mb1, ac1, tg1, wn1)).2.1) i)))), (sc, .inl (cZ, 211, .inl (fun i => bI (((jnS ch wh (((trp ch tx n pa n8)) z17) (so1, mb1, ac1, tg1, wn1)).2.2.1) i)))), (sg, .inl (cI, 1688, .inl (fun i => oN (((jnS ch wh (((trp ch tx n pa n8)) z17) (so1, mb1, ac1, tg1, wn1)).2.2.2.1) i)))), (sn, .inl (cI, 8, .inl (fun i => oN (((jnS ch wh (((trp ch tx n pa n8)) z17) (so1, mb1, ac1, tg1, wn1)).2.2.2.2) i)))), (ap, .inl (cI, 8, .inl (fun i => nI ((((trp ch tx n pa n8))) i)))), (hr, .inr (2, [.ref ar, .int (nI n)])), (ar, .inl (cC, m, .inl (fun i => nI (tx i)))), (ht, .inr (5, [.ref tc, .ref tw, .ref tf, .ref tb, .ref tl, .ref ts, .ref tq])), (tc, .inl (cI, 1688, .inl (fun i => oN (ch i)))), (tw, .inl (cZ, 211, .inl (fun i => bI (wh i)))), (tf, .inl (cI, 211, .inl (fun i => nI (hf i)))), (tb, .inl (cI, 211, .inl (fun i => nI (hb i)))), (tl, .inl (cI, 211, .inl (fun i => nI (ln i)))), (ts, .inl (cI, 211, .inl (fun i => oN (sw i)))), (tq, .inl (cI, 211, .inl (fun i => nI (od i))))] rfl rfl [ha, sa, sm, sc, sg, sn, ap, ht, tc, tw, tf, tb, tl, ts, tq] rfl rfl [some 0, some 1, some 2, some 3, some 4, some 5, some 6, none, none, some 7, some 8, some 9, some 10, some 11, some 12, some 13, some 14] rfl rfl (rest := []) rfl (Nat.le_of_ble_eq_true rfl) dX0_receive_29 ⟨Nat.zero_le _, Nat.zero_le _⟩ ?_
        refine V_iinc x 4 3 [(4, .int (oN (prd z17))), (0, .ref ha), (1, .ref hr), (2, .ref ht)] dX0_receive_32 rfl (prd_inc _) (by decide) rfl ?_
        refine V_goto x 15 dX0_receive_35 rfl ?_
        have h8 := trc_le ch tx n n8
        have h88 := n8_eq
        refine V.sub [1, 2, 3, 0] (lv' := [(0, .ref ha), (1, .ref hr), (2, .ref ht), (4, .int (oN (prd z17)))]) rfl ?_
        exact ih15 (z17) (by omega) z17 ((jnS ch wh (((trp ch tx n pa n8)) z17) (so1, mb1, ac1, tg1, wn1)).1) ((jnS ch wh (((trp ch tx n pa n8)) z17) (so1, mb1, ac1, tg1, wn1)).2.1) ((jnS ch wh (((trp ch tx n pa n8)) z17) (so1, mb1, ac1, tg1, wn1)).2.2.1) ((jnS ch wh (((trp ch tx n pa n8)) z17) (so1, mb1, ac1, tg1, wn1)).2.2.2.1) ((jnS ch wh (((trp ch tx n pa n8)) z17) (so1, mb1, ac1, tg1, wn1)).2.2.2.2) (by omega) (jnS_ok hs1 ht1 hw1 hm1).1 (jnS_ok hs1 ht1 hw1 hm1).2.1 (jnS_ok hs1 ht1 hw1 hm1).2.2.1 (fun i => by have := (jnS_ok (ch := ch) (wh := wh) (p := (trp ch tx n pa n8) z17) (ac := ac1) hs1 ht1 hw1 hm1).2.2.2 i; omega) (rcv_step (by omega) e1) rfl
  refine V.sub [2, 3, 4, 0] (lv' := [(0, .ref ha), (1, .ref hr), (2, .ref ht), (4, .int (oN (prd (trc ch tx n n8))))]) rfl ?_
  exact L15 _ (trc ch tx n n8) so mb ac tg wn (by omega) hso htg hwn (fun i => by have := hmb i; omega) (by rw [Nat.sub_self]; rfl) rfl
