/-! contracts, laid by prog/mk.py -/
set_option maxHeartbeats 4000000 in
set_option maxRecDepth 100000 in
theorem c_Finds_empty (l : Launch) (D : va_G) (cI cZ cC cJ : ClassId) (hF fa fb : Nat) (fu : Nat → Nat) (fv : Nat → Nat) (fk : Nat)  : CV l yX1_empty wsX1_empty { frames := 0, cells := 0, slots := 0, locals := 0 } D vwCl (tys4 cI cZ cC cJ) [.ref hF] [(hF, .inr (1, [.ref fa, .ref fb, .int (nI fk)])), (fa, .inl (cI, 420, .inl (fun i => nI (fu i)))), (fb, .inl (cI, 420, .inl (fun i => nI (fv i))))] [(hF, .inr (1, [.ref fa, .ref fb, .int (nI 0)])), (fa, .inl (cI, 420, .inl (fun i => nI (fu i)))), (fb, .inl (cI, 420, .inl (fun i => nI (fv i))))] := by
  refine CV.ofV (by decide +kernel) rfl (Nat.le_of_ble_eq_true rfl) ?_
  intro κ x hret
  refine V_aload_n x 0 dX1_empty_0 rfl rfl ?_
  refine V_iconst (v := nI 0) x dX1_empty_1 (by decide +kernel) ?_
  refine V_put (ty := .int) x 0 1 2 [(hF, .inr (1, [.ref fa, .ref fb, .int (nI 0)])), (fa, .inl (cI, 420, .inl (fun i => nI (fu i)))), (fb, .inl (cI, 420, .inl (fun i => nI (fv i))))] hinX1 tyX1 tyX1_ok nmX1 rfl rfl (by decide) flX1_18 rfl (by decide +kernel) rfl rfl (Nat.le_of_ble_eq_true rfl) rfl dX1_empty_2 ?_
  exact hret _ _ dX1_empty_5
set_option maxHeartbeats 4000000 in
set_option maxRecDepth 100000 in
theorem c_Finds_size (l : Launch) (D : va_G) (cI cZ cC cJ : ClassId) (hF fa fb : Nat) (fu : Nat → Nat) (fv : Nat → Nat) (fk : Nat)  : CI l yX1_size wsX1_size { frames := 0, cells := 0, slots := 0, locals := 0 } D vwCl (tys4 cI cZ cC cJ) [.ref hF] [(hF, .inr (1, [.ref fa, .ref fb, .int (nI fk)])), (fa, .inl (cI, 420, .inl (fun i => nI (fu i)))), (fb, .inl (cI, 420, .inl (fun i => nI (fv i))))] ((nI fk)) [(hF, .inr (1, [.ref fa, .ref fb, .int (nI fk)])), (fa, .inl (cI, 420, .inl (fun i => nI (fu i)))), (fb, .inl (cI, 420, .inl (fun i => nI (fv i))))] := by
  refine CI.ofV rfl (by decide +kernel) rfl (Nat.le_of_ble_eq_true rfl) ?_
  intro κ x hret
  refine V_aload_n x 0 dX1_size_0 rfl rfl ?_
  refine V_get x 0 1 2 hinX1 rfl rfl (by decide) flX1_18 rfl dX1_size_1 ?_
  exact hret _ _ dX1_size_4
set_option maxHeartbeats 4000000 in
set_option maxRecDepth 100000 in
theorem c_Finds_put (l : Launch) (D : va_G) (cI cZ cC cJ : ClassId) (hF fa fb : Nat) (fu : Nat → Nat) (fv : Nat → Nat) (fk : Nat) (a : Nat) (b : Nat) (hk : fk < 420) : CV l yX1_put wsX1_put { frames := 0, cells := 0, slots := 0, locals := 0 } D vwCl (tys4 cI cZ cC cJ) [.ref hF, .int (nI a), .int (nI b)] [(hF, .inr (1, [.ref fa, .ref fb, .int (nI fk)])), (fa, .inl (cI, 420, .inl (fun i => nI (fu i)))), (fb, .inl (cI, 420, .inl (fun i => nI (fv i))))] [(hF, .inr (1, [.ref fa, .ref fb, .int (nI (fk + 1))])), (fa, .inl (cI, 420, .inl (fun i => nI ((va_up fu fk a) i)))), (fb, .inl (cI, 420, .inl (fun i => nI ((va_up fv fk b) i))))] := by
  refine CV.ofV (by decide +kernel) rfl (Nat.le_of_ble_eq_true rfl) ?_
  intro κ x hret
  refine V_aload_n x 0 dX1_put_0 rfl rfl ?_
  refine V_get x 0 1 2 hinX1 rfl rfl (by decide) flX1_18 rfl dX1_put_1 ?_
  refine V_sipush (v := nI 420) x dX1_put_4 (by decide +kernel) ?_
  refine V_icmp_geN x 40 dX1_put_7 rfl (fun t7 => ?_) (fun f7 => ?_)
  · skip
    omega
  · skip
    refine V_aload_n x 0 dX1_put_10 rfl rfl ?_
    refine V_get x 0 1 0 hinX1 rfl rfl (by decide) flX1_9 rfl dX1_put_11 ?_
    refine V_aload_n x 0 dX1_put_14 rfl rfl ?_
    refine V_get x 0 1 2 hinX1 rfl rfl (by decide) flX1_18 rfl dX1_put_15 ?_
    refine V_iload_n x 1 dX1_put_18 rfl rfl ?_
    refine V_iast x 1 0 nI fu a [(hF, .inr (1, [.ref fa, .ref fb, .int (nI fk)])), (fa, .inl (cI, 420, .inl (fun i => nI ((va_up fu fk a) i)))), (fb, .inl (cI, 420, .inl (fun i => nI (fv i))))] rfl rfl dX1_put_19 (by omega) (by omega) rfl ?_
    refine V_aload_n x 0 dX1_put_20 rfl rfl ?_
    refine V_get x 0 1 1 hinX1 rfl rfl (by decide) flX1_15 rfl dX1_put_21 ?_
    refine V_aload_n x 0 dX1_put_24 rfl rfl ?_
    refine V_get x 0 1 2 hinX1 rfl rfl (by decide) flX1_18 rfl dX1_put_25 ?_
    refine V_iload_n x 2 dX1_put_28 rfl rfl ?_
    refine V_iast x 2 0 nI fv b [(hF, .inr (1, [.ref fa, .ref fb, .int (nI fk)])), (fa, .inl (cI, 420, .inl (fun i => nI ((va_up fu fk a) i)))), (fb, .inl (cI, 420, .inl (fun i => nI ((va_up fv fk b) i))))] rfl rfl dX1_put_29 (by omega) (by omega) rfl ?_
    refine V_aload_n x 0 dX1_put_30 rfl rfl ?_
    refine V_dup x dX1_put_31 rfl ?_
    refine V_get x 0 1 2 hinX1 rfl rfl (by decide) flX1_18 rfl dX1_put_32 ?_
    refine V_iconst (v := nI 1) x dX1_put_35 (by decide +kernel) ?_
    refine V_iadd x (nI (fk + 1)) dX1_put_36 (nI_add _ _) ?_
    refine V_put (ty := .int) x 0 1 2 [(hF, .inr (1, [.ref fa, .ref fb, .int (nI (fk + 1))])), (fa, .inl (cI, 420, .inl (fun i => nI ((va_up fu fk a) i)))), (fb, .inl (cI, 420, .inl (fun i => nI ((va_up fv fk b) i))))] hinX1 tyX1 tyX1_ok nmX1 rfl rfl (by decide) flX1_18 rfl (by decide +kernel) rfl rfl (Nat.le_of_ble_eq_true rfl) rfl dX1_put_37 ?_
    exact hret _ _ dX1_put_40
set_option maxHeartbeats 4000000 in
set_option maxRecDepth 100000 in
theorem c_Finds_number (l : Launch) (D : va_G) (cI cZ cC cJ : ClassId) (hF fa fb : Nat) (fu : Nat → Nat) (fv : Nat → Nat) (fk : Nat) (k : Nat) (hk : k < 420) : CI l yX1_number wsX1_number { frames := 0, cells := 0, slots := 0, locals := 0 } D vwCl (tys4 cI cZ cC cJ) [.ref hF, .int (nI k)] [(hF, .inr (1, [.ref fa, .ref fb, .int (nI fk)])), (fa, .inl (cI, 420, .inl (fun i => nI (fu i)))), (fb, .inl (cI, 420, .inl (fun i => nI (fv i))))] ((nI (fu k))) [(hF, .inr (1, [.ref fa, .ref fb, .int (nI fk)])), (fa, .inl (cI, 420, .inl (fun i => nI (fu i)))), (fb, .inl (cI, 420, .inl (fun i => nI (fv i))))] := by
  refine CI.ofV rfl (by decide +kernel) rfl (Nat.le_of_ble_eq_true rfl) ?_
  intro κ x hret
  refine V_aload_n x 0 dX1_number_0 rfl rfl ?_
  refine V_get x 0 1 0 hinX1 rfl rfl (by decide) flX1_9 rfl dX1_number_1 ?_
  refine V_iload_n x 1 dX1_number_4 rfl rfl ?_
  refine V_iald x 1 0 rfl rfl dX1_number_5 (by omega) (by omega) ?_
  exact hret _ _ dX1_number_6
set_option maxHeartbeats 4000000 in
set_option maxRecDepth 100000 in
theorem c_Finds_measure (l : Launch) (D : va_G) (cI cZ cC cJ : ClassId) (hF fa fb : Nat) (fu : Nat → Nat) (fv : Nat → Nat) (fk : Nat) (k : Nat) (hk : k < 420) : CI l yX1_measure wsX1_measure { frames := 0, cells := 0, slots := 0, locals := 0 } D vwCl (tys4 cI cZ cC cJ) [.ref hF, .int (nI k)] [(hF, .inr (1, [.ref fa, .ref fb, .int (nI fk)])), (fa, .inl (cI, 420, .inl (fun i => nI (fu i)))), (fb, .inl (cI, 420, .inl (fun i => nI (fv i))))] ((nI (fv k))) [(hF, .inr (1, [.ref fa, .ref fb, .int (nI fk)])), (fa, .inl (cI, 420, .inl (fun i => nI (fu i)))), (fb, .inl (cI, 420, .inl (fun i => nI (fv i))))] := by
  refine CI.ofV rfl (by decide +kernel) rfl (Nat.le_of_ble_eq_true rfl) ?_
  intro κ x hret
  refine V_aload_n x 0 dX1_measure_0 rfl rfl ?_
  refine V_get x 0 1 1 hinX1 rfl rfl (by decide) flX1_15 rfl dX1_measure_1 ?_
  refine V_iload_n x 1 dX1_measure_4 rfl rfl ?_
  refine V_iald x 2 0 rfl rfl dX1_measure_5 (by omega) (by omega) ?_
  exact hret _ _ dX1_measure_6
set_option maxHeartbeats 4000000 in
set_option maxRecDepth 100000 in
theorem c_read (l : Launch) (D : va_G) (cI cZ cC cJ : ClassId) (hR ad hr ar : Nat) (ds : Nat → Nat) (m : Nat) (tx : Nat → Nat) (n : Nat) (c : Nat) (hn7 : n ≤ 7) (hn : n ≤ m) (hm : m < 1000) (htx : ∀ i, tx i < 65536) (hc : c < 65536) (hds : ∀ i, ds i ≤ 500) : CV l yX3_read wsX3_read { frames := 1, cells := 0, slots := 0, locals := 21 } D vwCl (tys4 cI cZ cC cJ) [.ref hR, .ref hr, .int (nI c)] [(hR, .inr (3, [.ref ad])), (ad, .inl (cI, 8, .inl (fun i => nI (ds i)))), (hr, .inr (2, [.ref ar, .int (nI n)])), (ar, .inl (cC, m, .inl (fun i => nI (tx i))))] [(hR, .inr (3, [.ref ad])), (ad, .inl (cI, 8, .inl (fun i => nI (((rd tx c ds n).2) i)))), (hr, .inr (2, [.ref ar, .int (nI n)])), (ar, .inl (cC, m, .inl (fun i => nI (tx i))))] := by
  refine CV.ofV (by decide +kernel) rfl (Nat.le_of_ble_eq_true rfl) ?_
  intro κ x hret
  refine V_aload_n x 0 dX3_read_0 rfl rfl ?_
  refine V_get x 0 3 0 hinX3 rfl rfl (by decide) flX3_9 rfl dX3_read_1 ?_
  refine V_iconst (v := nI 0) x dX3_read_4 (by decide +kernel) ?_
  refine V_iald x 1 0 rfl rfl dX3_read_5 (by omega) (by omega) ?_
  refine V_istore_n x 3 [(3, .int (nI (ds 0))), (0, .ref hR), (1, .ref hr), (2, .int (nI c))] dX3_read_6 rfl (by decide) rfl ?_
  refine V_aload_n x 0 dX3_read_7 rfl rfl ?_
  refine V_get x 0 3 0 hinX3 rfl rfl (by decide) flX3_9 rfl dX3_read_8 ?_
  refine V_iconst (v := nI 0) x dX3_read_11 (by decide +kernel) ?_
  refine V_dup2 x dX3_read_12 rfl rfl ?_
  refine V_iald x 1 0 rfl rfl dX3_read_13 (by omega) (by omega) ?_
  refine V_iconst (v := nI 1) x dX3_read_14 (by decide +kernel) ?_
  refine V_iadd x (nI ((ds 0) + 1)) dX3_read_15 (nI_add _ _) ?_
  refine V_iast x 1 0 nI ds ((ds 0) + 1) [(hR, .inr (3, [.ref ad])), (ad, .inl (cI, 8, .inl (fun i => nI ((va_up ds 0 ((ds 0) + 1)) i)))), (hr, .inr (2, [.ref ar, .int (nI n)])), (ar, .inl (cC, m, .inl (fun i => nI (tx i))))] rfl rfl dX3_read_16 (by omega) (by omega) rfl ?_
  refine V_iconst (v := nI 1) x dX3_read_17 (by decide +kernel) ?_
  refine V_istore x 4 [(4, .int (nI 1)), (3, .int (nI (ds 0))), (0, .ref hR), (1, .ref hr), (2, .int (nI c))] dX3_read_18 (by decide) rfl ?_
  have L20 : ∀ (k20 : Nat) (k : Nat) (g1 : Nat) (d1 : Nat → Nat) (hk : k ≤ n) (e1 : rd tx c ds k = (g1, d1)) (hk20 : n - k = k20), V κ 0 0 [(hR, .inr (3, [.ref ad])), (ad, .inl (cI, 8, .inl (fun i => nI (d1 i)))), (hr, .inr (2, [.ref ar, .int (nI n)])), (ar, .inl (cC, m, .inl (fun i => nI (tx i))))] 20 [(0, .ref hR), (1, .ref hr), (2, .int (nI c)), (3, .int (nI g1)), (4, .int (nI (k + 1)))] [] := by
    intro k20
    induction k20 using Nat.strongRecOn with
    | ind k20 ih20 =>
      intro k g1 d1 hk e1 hk20
      refine V_iload x 4 dX3_read_20 rfl ?_
      refine V_aload_n x 1 dX3_read_22 rfl rfl ?_
      refine V_callVi x (c_Line_size l D cI cZ cC cJ hr ar m tx n ) 0 (gdV mlX3_15 imX2_size seX2_size inX2 coX2_size) rfl hdX2_size ⟨Nat.le_of_ble_eq_true rfl, Nat.le_of_ble_eq_true rfl⟩ ⟨rfl, rfl⟩ 2 rfl rfl rfl [2, 3] [(hR, .inr (3, [.ref ad])), (ad, .inl (cI, 8, .inl (fun i => nI (d1 i)))), (hr, .inr (2, [.ref ar, .int (nI n)])), (ar, .inl (cC, m, .inl (fun i => nI (tx i))))] rfl rfl [hr, ar] rfl rfl [none, none, some 0, some 1] rfl rfl (rest := [.int (nI (k + 1))]) rfl (Nat.le_of_ble_eq_true rfl) dX3_read_23 ⟨Nat.zero_le _, Nat.zero_le _⟩ ?_
      refine V_icmp_gtN x 91 dX3_read_26 rfl (fun t26 => ?_) (fun f26 => ?_)
      · skip
        obtain rfl : k = n := by omega
        rw [e1] at hret
        exact hret _ _ dX3_read_91
      · skip
        have hb := rd_le (tx := tx) (c := c) hds k
        rw [e1] at hb
        obtain ⟨hb1, hb2⟩ := hb
        replace hb1 : g1 ≤ 500 := hb1
        have hb3 : d1 (k + 1) ≤ 501 := (hb2 (k + 1)).1
        have hb4 : d1 k ≤ 501 := (hb2 k).1
        have hb5 := Nat.min_le_left (d1 (k + 1)) (d1 k)
        refine V_aload_n x 1 dX3_read_29 rfl rfl ?_
        refine V_iload x 4 dX3_read_30 rfl ?_
        refine V_iconst (v := nI 1) x dX3_read_32 (by decide +kernel) ?_
        refine V_isub x (nI k) dX3_read_33 (nI_pred k) ?_
        refine V_callVi x (c_Line_at l D cI cZ cC cJ hr ar m tx n k (by first | omega | assumption) (by first | omega | assumption) (by first | omega | assumption) (by first | omega | assumption)) 1 (gdV mlX3_21 imX2_at seX2_at inX2 coX2_at) rfl hdX2_at ⟨Nat.le_of_ble_eq_true rfl, Nat.le_of_ble_eq_true rfl⟩ ⟨rfl, rfl⟩ 2 rfl rfl rfl [2, 3] [(hR, .inr (3, [.ref ad])), (ad, .inl (cI, 8, .inl (fun i => nI (d1 i)))), (hr, .inr (2, [.ref ar, .int (nI n)])), (ar, .inl (cC, m, .inl (fun i => nI (tx i))))] rfl rfl [hr, ar] rfl rfl [none, none, some 0, some 1] rfl rfl (rest := []) rfl (Nat.le_of_ble_eq_true rfl) dX3_read_34 ⟨Nat.zero_le _, Nat.zero_le _⟩ ?_
        refine V_iload_n x 2 dX3_read_37 rfl rfl ?_
        have J48 : V κ 0 0 [(hR, .inr (3, [.ref ad])), (ad, .inl (cI, 8, .inl (fun i => nI (d1 i)))), (hr, .inr (2, [.ref ar, .int (nI n)])), (ar, .inl (cC, m, .inl (fun i => nI (tx i))))] 48 [(0, .ref hR), (1, .ref hr), (2, .int (nI c)), (3, .int (nI g1)), (4, .int (nI (k + 1)))] [.int (nI (if tx k = c then g1 else g1 + 1))] := by
          refine V_istore x 5 [(5, .int (nI (if tx k = c then g1 else g1 + 1))), (0, .ref hR), (1, .ref hr), (2, .int (nI c)), (3, .int (nI g1)), (4, .int (nI (k + 1)))] dX3_read_48 (by decide) rfl ?_
          refine V_aload_n x 0 dX3_read_50 rfl rfl ?_
          refine V_get x 0 3 0 hinX3 rfl rfl (by decide) flX3_9 rfl dX3_read_51 ?_
          refine V_iload x 4 dX3_read_54 rfl ?_
          refine V_iald x 1 0 rfl rfl dX3_read_56 (by omega) (by omega) ?_
          refine V_istore_n x 3 [(3, .int (nI (d1 (k + 1)))), (5, .int (nI (if tx k = c then g1 else g1 + 1))), (0, .ref hR), (1, .ref hr), (2, .int (nI c)), (4, .int (nI (k + 1)))] dX3_read_57 rfl (by decide) rfl ?_
          refine V_aload_n x 0 dX3_read_58 rfl rfl ?_
          refine V_get x 0 3 0 hinX3 rfl rfl (by decide) flX3_9 rfl dX3_read_59 ?_
          refine V_iload x 4 dX3_read_62 rfl ?_
          refine V_iload x 5 dX3_read_64 rfl ?_
          refine V_iconst (v := nI 1) x dX3_read_66 (by decide +kernel) ?_
          refine V_iload_n x 3 dX3_read_67 rfl rfl ?_
          refine V_aload_n x 0 dX3_read_68 rfl rfl ?_
          refine V_get x 0 3 0 hinX3 rfl rfl (by decide) flX3_9 rfl dX3_read_69 ?_
          refine V_iload x 4 dX3_read_72 rfl ?_
          refine V_iconst (v := nI 1) x dX3_read_74 (by decide +kernel) ?_
          refine V_isub x (nI k) dX3_read_75 (nI_pred k) ?_
          refine V_iald x 1 0 rfl rfl dX3_read_76 (by omega) (by omega) ?_
          refine V_min x mlX3_29 mi_st mi_in mi_co dX3_read_77 ⟨Nat.le_of_ble_eq_true rfl, Nat.le_of_ble_eq_true rfl, Nat.zero_le _, Nat.zero_le _⟩ (by omega) (by omega) ?_
          refine V_iadd x (nI (1 + (min (d1 (k + 1)) (d1 k)))) dX3_read_80 (nI_add _ _) ?_
          refine V_min x mlX3_29 mi_st mi_in mi_co dX3_read_81 ⟨Nat.le_of_ble_eq_true rfl, Nat.le_of_ble_eq_true rfl, Nat.zero_le _, Nat.zero_le _⟩ (by split <;> omega) (by omega) ?_
          refine V_iast x 1 0 nI d1 (min (if tx k = c then g1 else g1 + 1) (1 + (min (d1 (k + 1)) (d1 k)))) [(hR, .inr (3, [.ref ad])), (ad, .inl (cI, 8, .inl (fun i => nI ((va_up d1 (k + 1) (min (if tx k = c then g1 else g1 + 1) (1 + (min (d1 (k + 1)) (d1 k))))) i)))), (hr, .inr (2, [.ref ar, .int (nI n)])), (ar, .inl (cC, m, .inl (fun i => nI (tx i))))] rfl rfl dX3_read_84 (by omega) (by omega) rfl ?_
          refine V_iinc x 4 5 [(4, .int (nI ((k + 1) + 1))), (3, .int (nI (d1 (k + 1)))), (5, .int (nI (if tx k = c then g1 else g1 + 1))), (0, .ref hR), (1, .ref hr), (2, .int (nI c))] dX3_read_85 rfl (iinc_1 _) (by decide) rfl ?_
          refine V_goto x 20 dX3_read_88 rfl ?_
          refine V.sub [3, 4, 5, 1, 0] (lv' := [(0, .ref hR), (1, .ref hr), (2, .int (nI c)), (3, .int (nI ((d1 (k + 1))))), (4, .int (nI ((k + 1) + 1)))]) rfl ?_
          exact ih20 (n - (k + 1)) (by omega) (k + 1) (d1 (k + 1)) (va_up d1 (k + 1) (min (if tx k = c then g1 else g1 + 1) (1 + (min (d1 (k + 1)) (d1 k))))) (by omega) (by rw [rd, e1]) rfl
        refine V_icmp_neN x 45 dX3_read_38 rfl (fun t38 => ?_) (fun f38 => ?_) (by have := htx k; omega) (by omega)
        · skip
          refine V_iload_n x 3 dX3_read_45 rfl rfl ?_
          refine V_iconst (v := nI 1) x dX3_read_46 (by decide +kernel) ?_
          refine V_iadd x (nI (g1 + 1)) dX3_read_47 (nI_add _ _) ?_
          refine V.ci (x' := nI (if tx k = c then g1 else g1 + 1)) (by first | (rw [if_pos f38]; done) | (rw [if_neg t38])) ?_
          exact J48
        · skip
          refine V_iload_n x 3 dX3_read_41 rfl rfl ?_
          refine V_goto x 48 dX3_read_42 rfl ?_
          refine V.ci (x' := nI (if tx k = c then g1 else g1 + 1)) (by first | (rw [if_pos f38]; done) | (rw [if_neg t38])) ?_
          exact J48
  refine V.sub [2, 3, 4, 1, 0] (lv' := [(0, .ref hR), (1, .ref hr), (2, .int (nI c)), (3, .int (nI ((ds 0)))), (4, .int (nI (0 + 1)))]) rfl ?_
  exact L20 _ 0 (ds 0) (va_up ds 0 (ds 0 + 1)) (by omega) rfl rfl
set_option maxHeartbeats 4000000 in
set_option maxRecDepth 100000 in
theorem c_distance (l : Launch) (D : va_G) (cI cZ cC cJ : ClassId) (hR ad hr ar h2 a2 : Nat) (ds : Nat → Nat) (m : Nat) (tx : Nat → Nat) (n : Nat) (m2 : Nat) (t2 : Nat → Nat) (n2 : Nat) (hn7 : n ≤ 7) (hn : n ≤ m) (hm : m < 1000) (htx : ∀ i, tx i < 65536) (hn2 : n2 ≤ m2) (hm2 : m2 < 1000) (hn60 : n2 ≤ 60) (htx2 : ∀ i, t2 i < 65536) (hds : ∀ i, ds i ≤ 100) : CI l yX3_distance wsX3_distance { frames := 2, cells := 0, slots := 0, locals := 46 } D vwCl (tys4 cI cZ cC cJ) [.ref hR, .ref hr, .ref h2] [(hR, .inr (3, [.ref ad])), (ad, .inl (cI, 8, .inl (fun i => nI (ds i)))), (hr, .inr (2, [.ref ar, .int (nI n)])), (ar, .inl (cC, m, .inl (fun i => nI (tx i)))), (h2, .inr (2, [.ref a2, .int (nI n2)])), (a2, .inl (cC, m2, .inl (fun i => nI (t2 i))))] ((nI (rds tx n t2 ds n2 n))) [(hR, .inr (3, [.ref ad])), (ad, .inl (cI, 8, .inl (fun i => nI ((rds tx n t2 ds n2) i)))), (hr, .inr (2, [.ref ar, .int (nI n)])), (ar, .inl (cC, m, .inl (fun i => nI (tx i)))), (h2, .inr (2, [.ref a2, .int (nI n2)])), (a2, .inl (cC, m2, .inl (fun i => nI (t2 i))))] := by
  refine CI.ofV rfl (by decide +kernel) rfl (Nat.le_of_ble_eq_true rfl) ?_
  intro κ x hret
  refine V_iconst (v := nI 0) x dX3_distance_0 (by decide +kernel) ?_
  refine V_istore_n x 3 [(3, .int (nI 0)), (0, .ref hR), (1, .ref hr), (2, .ref h2)] dX3_distance_1 rfl (by decide) rfl ?_
  have L2 : ∀ (k2 : Nat) (k : Nat) (d1 : Nat → Nat) (hk : k ≤ n + 1) (e1 : fil ds k = d1) (hk2 : n + 1 - k = k2), V κ 0 0 [(hR, .inr (3, [.ref ad])), (ad, .inl (cI, 8, .inl (fun i => nI (d1 i)))), (hr, .inr (2, [.ref ar, .int (nI n)])), (ar, .inl (cC, m, .inl (fun i => nI (tx i)))), (h2, .inr (2, [.ref a2, .int (nI n2)])), (a2, .inl (cC, m2, .inl (fun i => nI (t2 i))))] 2 [(0, .ref hR), (1, .ref hr), (2, .ref h2), (3, .int (nI k))] [] := by
    intro k2
    induction k2 using Nat.strongRecOn with
    | ind k2 ih2 =>
      intro k d1 hk e1 hk2
      refine V_iload_n x 3 dX3_distance_2 rfl rfl ?_
      refine V_aload_n x 1 dX3_distance_3 rfl rfl ?_
      refine V_callVi x (c_Line_size l D cI cZ cC cJ hr ar m tx n ) 0 (gdV mlX3_15 imX2_size seX2_size inX2 coX2_size) rfl hdX2_size ⟨Nat.le_of_ble_eq_true rfl, Nat.le_of_ble_eq_true rfl⟩ ⟨rfl, rfl⟩ 2 rfl rfl rfl [2, 3] [(hR, .inr (3, [.ref ad])), (ad, .inl (cI, 8, .inl (fun i => nI (d1 i)))), (hr, .inr (2, [.ref ar, .int (nI n)])), (ar, .inl (cC, m, .inl (fun i => nI (tx i)))), (h2, .inr (2, [.ref a2, .int (nI n2)])), (a2, .inl (cC, m2, .inl (fun i => nI (t2 i))))] rfl rfl [hr, ar] rfl rfl [none, none, some 0, some 1] rfl rfl (rest := [.int (nI k)]) rfl (Nat.le_of_ble_eq_true rfl) dX3_distance_4 ⟨Nat.zero_le _, Nat.zero_le _⟩ ?_
      refine V_icmp_gtN x 23 dX3_distance_7 rfl (fun t7 => ?_) (fun f7 => ?_)
      · skip
        refine V_iconst (v := nI 0) x dX3_distance_23 (by decide +kernel) ?_
        refine V_istore_n x 3 [(3, .int (nI 0)), (0, .ref hR), (1, .ref hr), (2, .ref h2)] dX3_distance_24 rfl (by decide) rfl ?_
        have L25 : ∀ (k25 : Nat) (j : Nat) (d2 : Nat → Nat) (hj : j ≤ n2) (hd2 : ∀ i, d2 i ≤ 100 + j) (e2 : rds tx n t2 ds j = d2) (hk25 : n2 - j = k25), V κ 0 0 [(hR, .inr (3, [.ref ad])), (ad, .inl (cI, 8, .inl (fun i => nI (d2 i)))), (hr, .inr (2, [.ref ar, .int (nI n)])), (ar, .inl (cC, m, .inl (fun i => nI (tx i)))), (h2, .inr (2, [.ref a2, .int (nI n2)])), (a2, .inl (cC, m2, .inl (fun i => nI (t2 i))))] 25 [(0, .ref hR), (1, .ref hr), (2, .ref h2), (3, .int (nI j))] [] := by
          intro k25
          induction k25 using Nat.strongRecOn with
          | ind k25 ih25 =>
            intro j d2 hj hd2 e2 hk25
            refine V_iload_n x 3 dX3_distance_25 rfl rfl ?_
            refine V_aload_n x 2 dX3_distance_26 rfl rfl ?_
            refine V_callVi x (c_Line_size l D cI cZ cC cJ h2 a2 m2 t2 n2 ) 0 (gdV mlX3_15 imX2_size seX2_size inX2 coX2_size) rfl hdX2_size ⟨Nat.le_of_ble_eq_true rfl, Nat.le_of_ble_eq_true rfl⟩ ⟨rfl, rfl⟩ 4 rfl rfl rfl [4, 5] [(hR, .inr (3, [.ref ad])), (ad, .inl (cI, 8, .inl (fun i => nI (d2 i)))), (hr, .inr (2, [.ref ar, .int (nI n)])), (ar, .inl (cC, m, .inl (fun i => nI (tx i)))), (h2, .inr (2, [.ref a2, .int (nI n2)])), (a2, .inl (cC, m2, .inl (fun i => nI (t2 i))))] rfl rfl [h2, a2] rfl rfl [none, none, none, none, some 0, some 1] rfl rfl (rest := [.int (nI j)]) rfl (Nat.le_of_ble_eq_true rfl) dX3_distance_27 ⟨Nat.zero_le _, Nat.zero_le _⟩ ?_
            refine V_icmp_geN x 49 dX3_distance_30 rfl (fun t30 => ?_) (fun f30 => ?_)
            · skip
              refine V_aload_n x 0 dX3_distance_49 rfl rfl ?_
              refine V_get x 0 3 0 hinX3 rfl rfl (by decide) flX3_9 rfl dX3_distance_50 ?_
              refine V_aload_n x 1 dX3_distance_53 rfl rfl ?_
              refine V_callVi x (c_Line_size l D cI cZ cC cJ hr ar m tx n ) 0 (gdV mlX3_15 imX2_size seX2_size inX2 coX2_size) rfl hdX2_size ⟨Nat.le_of_ble_eq_true rfl, Nat.le_of_ble_eq_true rfl⟩ ⟨rfl, rfl⟩ 2 rfl rfl rfl [2, 3] [(hR, .inr (3, [.ref ad])), (ad, .inl (cI, 8, .inl (fun i => nI (d2 i)))), (hr, .inr (2, [.ref ar, .int (nI n)])), (ar, .inl (cC, m, .inl (fun i => nI (tx i)))), (h2, .inr (2, [.ref a2, .int (nI n2)])), (a2, .inl (cC, m2, .inl (fun i => nI (t2 i))))] rfl rfl [hr, ar] rfl rfl [none, none, some 0, some 1] rfl rfl (rest := [.ref ad]) rfl (Nat.le_of_ble_eq_true rfl) dX3_distance_54 ⟨Nat.zero_le _, Nat.zero_le _⟩ ?_
              refine V_iald x 1 0 rfl rfl dX3_distance_57 (by omega) (by omega) ?_
              obtain rfl : j = n2 := by omega
              rw [e2] at hret
              exact hret _ _ dX3_distance_58
            · skip
              refine V_aload_n x 0 dX3_distance_33 rfl rfl ?_
              refine V_aload_n x 1 dX3_distance_34 rfl rfl ?_
              refine V_aload_n x 2 dX3_distance_35 rfl rfl ?_
              refine V_iload_n x 3 dX3_distance_36 rfl rfl ?_
              refine V_callVi x (c_Line_at l D cI cZ cC cJ h2 a2 m2 t2 n2 j (by omega) hn2 hm2 htx2) 1 (gdV mlX3_21 imX2_at seX2_at inX2 coX2_at) rfl hdX2_at ⟨Nat.le_of_ble_eq_true rfl, Nat.le_of_ble_eq_true rfl⟩ ⟨rfl, rfl⟩ 4 rfl rfl rfl [4, 5] [(hR, .inr (3, [.ref ad])), (ad, .inl (cI, 8, .inl (fun i => nI (d2 i)))), (hr, .inr (2, [.ref ar, .int (nI n)])), (ar, .inl (cC, m, .inl (fun i => nI (tx i)))), (h2, .inr (2, [.ref a2, .int (nI n2)])), (a2, .inl (cC, m2, .inl (fun i => nI (t2 i))))] rfl rfl [h2, a2] rfl rfl [none, none, none, none, some 0, some 1] rfl rfl (rest := [.ref hr, .ref hR]) rfl (Nat.le_of_ble_eq_true rfl) dX3_distance_37 ⟨Nat.zero_le _, Nat.zero_le _⟩ ?_
              refine V_callVv x (c_read l D cI cZ cC cJ hR ad hr ar d2 m tx n (t2 j) (by first | omega | assumption) (by first | omega | assumption) (by first | omega | assumption) (by first | omega | assumption) (htx2 j) (fun i => by have := hd2 i; omega)) 2 (gdV mlX3_25 imX3_read seX3_read inX3 coX3_read) rfl hdX3_read ⟨Nat.le_of_ble_eq_true rfl, Nat.le_of_ble_eq_true rfl⟩ ⟨rfl, rfl⟩ 0 rfl rfl rfl [0, 1, 2, 3] [(hR, .inr (3, [.ref ad])), (ad, .inl (cI, 8, .inl (fun i => nI (((rd tx (t2 j) d2 n).2) i)))), (hr, .inr (2, [.ref ar, .int (nI n)])), (ar, .inl (cC, m, .inl (fun i => nI (tx i)))), (h2, .inr (2, [.ref a2, .int (nI n2)])), (a2, .inl (cC, m2, .inl (fun i => nI (t2 i))))] rfl rfl [hR, ad, hr, ar] rfl rfl [some 0, some 1, some 2, some 3] rfl rfl (rest := []) rfl (Nat.le_of_ble_eq_true rfl) dX3_distance_40 ⟨Nat.zero_le _, Nat.zero_le _⟩ ?_
              refine V_iinc x 3 3 [(3, .int (nI (j + 1))), (0, .ref hR), (1, .ref hr), (2, .ref h2)] dX3_distance_43 rfl (iinc_1 _) (by decide) rfl ?_
              refine V_goto x 25 dX3_distance_46 rfl ?_
              refine V.sub [1, 2, 3, 0] (lv' := [(0, .ref hR), (1, .ref hr), (2, .ref h2), (3, .int (nI ((j + 1))))]) rfl ?_
              exact ih25 (n2 - (j + 1)) (by omega) (j + 1) ((rd tx (t2 j) d2 n).2) (by omega) (fun i => ((rd_le hd2 n).2 i).1) (by rw [rds, e2]) rfl
        refine V.sub [1, 2, 3, 0] (lv' := [(0, .ref hR), (1, .ref hr), (2, .ref h2), (3, .int (nI 0))]) rfl ?_
        exact L25 _ 0 d1 (by omega) (by rw [← e1]; exact fil_le hds k (by omega)) (by rw [← e1, show k = n + 1 by omega]; rfl) rfl
      · skip
        refine V_aload_n x 0 dX3_distance_10 rfl rfl ?_
        refine V_get x 0 3 0 hinX3 rfl rfl (by decide) flX3_9 rfl dX3_distance_11 ?_
        refine V_iload_n x 3 dX3_distance_14 rfl rfl ?_
        refine V_iload_n x 3 dX3_distance_15 rfl rfl ?_
        refine V_iast x 1 0 nI d1 k [(hR, .inr (3, [.ref ad])), (ad, .inl (cI, 8, .inl (fun i => nI ((va_up d1 k k) i)))), (hr, .inr (2, [.ref ar, .int (nI n)])), (ar, .inl (cC, m, .inl (fun i => nI (tx i)))), (h2, .inr (2, [.ref a2, .int (nI n2)])), (a2, .inl (cC, m2, .inl (fun i => nI (t2 i))))] rfl rfl dX3_distance_16 (by omega) (by omega) rfl ?_
        refine V_iinc x 3 3 [(3, .int (nI (k + 1))), (0, .ref hR), (1, .ref hr), (2, .ref h2)] dX3_distance_17 rfl (iinc_1 _) (by decide) rfl ?_
        refine V_goto x 2 dX3_distance_20 rfl ?_
        refine V.sub [1, 2, 3, 0] (lv' := [(0, .ref hR), (1, .ref hr), (2, .ref h2), (3, .int (nI ((k + 1))))]) rfl ?_
        exact ih2 (n + 1 - (k + 1)) (by omega) (k + 1) (va_up d1 k k) (by omega) (by rw [fil, e1]) rfl
  refine V.sub [1, 2, 3, 0] (lv' := [(0, .ref hR), (1, .ref hr), (2, .ref h2), (3, .int (nI 0))]) rfl ?_
  exact L2 _ 0 ds (by omega) rfl rfl
