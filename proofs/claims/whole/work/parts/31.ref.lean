/-! contracts, laid by prog/mk.py -/
set_option maxHeartbeats 4000000 in
set_option maxRecDepth 100000 in
theorem m_type_ok (l : Launch) (D : va_G) (cI cZ cC cJ : ClassId) (hM mTx mPg mLe mSz mLo mHi mDp mFu mFv mRw mBl mWy mFe : Nat) (ft : Nat) (ty : Nat) (wr : Nat) (cn : Nat) (pf : Nat) (mn : Nat) (tx : Nat → Nat) (c : Nat) (hc1 : 32 ≤ c) (hc2 : c ≤ 126) (hty : ty < 60) : CI l yX7_type wsX7_type { frames := 0, cells := 0, slots := 0, locals := 0 } D vwCl (tys4 cI cZ cC cJ) [.ref hM, .int (nI c)] [(hM, .inr (7, [.int (nI ft), .int (nI ty), .ref mTx, .int (nI wr), .ref mPg, .int (nI cn), .ref mLe, .ref mSz, .int (nI pf), .ref mLo, .ref mHi, .ref mDp, .int (nI mn), .ref mFu, .ref mFv, .ref mRw, .ref mBl, .ref mWy, .ref mFe])), (mTx, .inl (cI, 60, .inl (fun i => nI (tx i))))] ((bI true)) [(hM, .inr (7, [.int (nI 0), .int (nI (ty + 1)), .ref mTx, .int (nI wr), .ref mPg, .int (nI cn), .ref mLe, .ref mSz, .int (nI pf), .ref mLo, .ref mHi, .ref mDp, .int (nI mn), .ref mFu, .ref mFv, .ref mRw, .ref mBl, .ref mWy, .ref mFe])), (mTx, .inl (cI, 60, .inl (fun i => nI ((va_up tx ty c) i))))] := by
  refine CI.ofV (nar_bI2 _) (by decide +kernel) rfl (Nat.le_of_ble_eq_true rfl) ?_
  intro κ x hret
  refine V_aload_n x 0 dX7_type_0 rfl rfl ?_
  refine V_iconst (v := nI 0) x dX7_type_1 (by decide +kernel) ?_
  refine V_put (ty := .int) x 0 7 0 [(hM, .inr (7, [.int (nI 0), .int (nI ty), .ref mTx, .int (nI wr), .ref mPg, .int (nI cn), .ref mLe, .ref mSz, .int (nI pf), .ref mLo, .ref mHi, .ref mDp, .int (nI mn), .ref mFu, .ref mFv, .ref mRw, .ref mBl, .ref mWy, .ref mFe])), (mTx, .inl (cI, 60, .inl (fun i => nI (tx i))))] hinX7 tyX7 tyX7_ok nmX7 rfl rfl (by decide) flX7_50 rfl (by decide +kernel) rfl rfl (Nat.le_of_ble_eq_true rfl) rfl dX7_type_2 ?_
  refine V_iload_n x 1 dX7_type_5 rfl rfl ?_
  refine V_bipush (v := nI 32) x dX7_type_6 (by decide +kernel) ?_
  refine V_icmp_ltN x 26 dX7_type_8 rfl (fun t8 => ?_) (fun f8 => ?_)
  · skip
    omega
  · skip
    refine V_iload_n x 1 dX7_type_11 rfl rfl ?_
    refine V_bipush (v := nI 126) x dX7_type_12 (by decide +kernel) ?_
    refine V_icmp_gtN x 26 dX7_type_14 rfl (fun t14 => ?_) (fun f14 => ?_)
    · skip
      omega
    · skip
      refine V_aload_n x 0 dX7_type_17 rfl rfl ?_
      refine V_get x 0 7 1 hinX7 rfl rfl (by decide) flX7_54 rfl dX7_type_18 ?_
      refine V_bipush (v := nI 60) x dX7_type_21 (by decide +kernel) ?_
      refine V_icmp_neN x 28 dX7_type_23 rfl (fun t23 => ?_) (fun f23 => ?_)
      · skip
        refine V_aload_n x 0 dX7_type_28 rfl rfl ?_
        refine V_get x 0 7 2 hinX7 rfl rfl (by decide) flX7_7 rfl dX7_type_29 ?_
        refine V_aload_n x 0 dX7_type_32 rfl rfl ?_
        refine V_get x 0 7 1 hinX7 rfl rfl (by decide) flX7_54 rfl dX7_type_33 ?_
        refine V_iload_n x 1 dX7_type_36 rfl rfl ?_
        refine V_iast x 1 0 nI tx c [(hM, .inr (7, [.int (nI 0), .int (nI ty), .ref mTx, .int (nI wr), .ref mPg, .int (nI cn), .ref mLe, .ref mSz, .int (nI pf), .ref mLo, .ref mHi, .ref mDp, .int (nI mn), .ref mFu, .ref mFv, .ref mRw, .ref mBl, .ref mWy, .ref mFe])), (mTx, .inl (cI, 60, .inl (fun i => nI ((va_up tx ty c) i))))] rfl rfl dX7_type_37 (by omega) (by omega) rfl ?_
        refine V_aload_n x 0 dX7_type_38 rfl rfl ?_
        refine V_dup x dX7_type_39 rfl ?_
        refine V_get x 0 7 1 hinX7 rfl rfl (by decide) flX7_54 rfl dX7_type_40 ?_
        refine V_iconst (v := nI 1) x dX7_type_43 (by decide +kernel) ?_
        refine V_iadd x (nI (ty + 1)) dX7_type_44 (nI_add _ _) ?_
        refine V_put (ty := .int) x 0 7 1 [(hM, .inr (7, [.int (nI 0), .int (nI (ty + 1)), .ref mTx, .int (nI wr), .ref mPg, .int (nI cn), .ref mLe, .ref mSz, .int (nI pf), .ref mLo, .ref mHi, .ref mDp, .int (nI mn), .ref mFu, .ref mFv, .ref mRw, .ref mBl, .ref mWy, .ref mFe])), (mTx, .inl (cI, 60, .inl (fun i => nI ((va_up tx ty c) i))))] hinX7 tyX7 tyX7_ok nmX7 rfl rfl (by decide) flX7_54 rfl (by decide +kernel) rfl rfl (Nat.le_of_ble_eq_true rfl) rfl dX7_type_45 ?_
        refine V_iconst (v := nI 1) x dX7_type_48 (by decide +kernel) ?_
        refine V.ci (x' := bI true) (by decide) ?_
        exact hret _ _ dX7_type_49
      · skip
        omega
set_option maxHeartbeats 4000000 in
set_option maxRecDepth 100000 in
theorem m_type_no (l : Launch) (D : va_G) (cI cZ cC cJ : ClassId) (hM mTx mPg mLe mSz mLo mHi mDp mFu mFv mRw mBl mWy mFe : Nat) (ft : Nat) (ty : Nat) (wr : Nat) (cn : Nat) (pf : Nat) (mn : Nat) (tx : Nat → Nat) (c : Nat) (hc : c < 65536) (hty : ty ≤ 60) (hno : ¬ (32 ≤ c ∧ c ≤ 126 ∧ ty < 60)) : CI l yX7_type wsX7_type { frames := 0, cells := 0, slots := 0, locals := 0 } D vwCl (tys4 cI cZ cC cJ) [.ref hM, .int (nI c)] [(hM, .inr (7, [.int (nI ft), .int (nI ty), .ref mTx, .int (nI wr), .ref mPg, .int (nI cn), .ref mLe, .ref mSz, .int (nI pf), .ref mLo, .ref mHi, .ref mDp, .int (nI mn), .ref mFu, .ref mFv, .ref mRw, .ref mBl, .ref mWy, .ref mFe])), (mTx, .inl (cI, 60, .inl (fun i => nI (tx i))))] ((bI false)) [(hM, .inr (7, [.int (nI 0), .int (nI ty), .ref mTx, .int (nI wr), .ref mPg, .int (nI cn), .ref mLe, .ref mSz, .int (nI pf), .ref mLo, .ref mHi, .ref mDp, .int (nI mn), .ref mFu, .ref mFv, .ref mRw, .ref mBl, .ref mWy, .ref mFe])), (mTx, .inl (cI, 60, .inl (fun i => nI (tx i))))] := by
  refine CI.ofV (nar_bI2 _) (by decide +kernel) rfl (Nat.le_of_ble_eq_true rfl) ?_
  intro κ x hret
  refine V_aload_n x 0 dX7_type_0 rfl rfl ?_
  refine V_iconst (v := nI 0) x dX7_type_1 (by decide +kernel) ?_
  refine V_put (ty := .int) x 0 7 0 [(hM, .inr (7, [.int (nI 0), .int (nI ty), .ref mTx, .int (nI wr), .ref mPg, .int (nI cn), .ref mLe, .ref mSz, .int (nI pf), .ref mLo, .ref mHi, .ref mDp, .int (nI mn), .ref mFu, .ref mFv, .ref mRw, .ref mBl, .ref mWy, .ref mFe])), (mTx, .inl (cI, 60, .inl (fun i => nI (tx i))))] hinX7 tyX7 tyX7_ok nmX7 rfl rfl (by decide) flX7_50 rfl (by decide +kernel) rfl rfl (Nat.le_of_ble_eq_true rfl) rfl dX7_type_2 ?_
  refine V_iload_n x 1 dX7_type_5 rfl rfl ?_
  refine V_bipush (v := nI 32) x dX7_type_6 (by decide +kernel) ?_
  refine V_icmp_ltN x 26 dX7_type_8 rfl (fun t8 => ?_) (fun f8 => ?_)
  · skip
    refine V_iconst (v := nI 0) x dX7_type_26 (by decide +kernel) ?_
    refine V.ci (x' := bI false) (by decide) ?_
    exact hret _ _ dX7_type_27
  · skip
    refine V_iload_n x 1 dX7_type_11 rfl rfl ?_
    refine V_bipush (v := nI 126) x dX7_type_12 (by decide +kernel) ?_
    refine V_icmp_gtN x 26 dX7_type_14 rfl (fun t14 => ?_) (fun f14 => ?_)
    · skip
      refine V_iconst (v := nI 0) x dX7_type_26 (by decide +kernel) ?_
      refine V.ci (x' := bI false) (by decide) ?_
      exact hret _ _ dX7_type_27
    · skip
      refine V_aload_n x 0 dX7_type_17 rfl rfl ?_
      refine V_get x 0 7 1 hinX7 rfl rfl (by decide) flX7_54 rfl dX7_type_18 ?_
      refine V_bipush (v := nI 60) x dX7_type_21 (by decide +kernel) ?_
      refine V_icmp_neN x 28 dX7_type_23 rfl (fun t23 => ?_) (fun f23 => ?_)
      · skip
        omega
      · skip
        refine V_iconst (v := nI 0) x dX7_type_26 (by decide +kernel) ?_
        refine V.ci (x' := bI false) (by decide) ?_
        exact hret _ _ dX7_type_27
set_option maxHeartbeats 4000000 in
set_option maxRecDepth 100000 in
theorem m_wipe (l : Launch) (D : va_G) (cI cZ cC cJ : ClassId) (hM mTx mPg mLe mSz mLo mHi mDp mFu mFv mRw mBl mWy mFe : Nat) (ft : Nat) (ty : Nat) (wr : Nat) (cn : Nat) (pf : Nat) (mn : Nat)  : CI l yX7_wipe wsX7_wipe { frames := 1, cells := 0, slots := 0, locals := 21 } D vwCl (tys4 cI cZ cC cJ) [.ref hM] [(hM, .inr (7, [.int (nI ft), .int (nI ty), .ref mTx, .int (nI wr), .ref mPg, .int (nI cn), .ref mLe, .ref mSz, .int (nI pf), .ref mLo, .ref mHi, .ref mDp, .int (nI mn), .ref mFu, .ref mFv, .ref mRw, .ref mBl, .ref mWy, .ref mFe]))] ((nI ty)) [(hM, .inr (7, [.int (nI 0), .int (nI 0), .ref mTx, .int (nI wr), .ref mPg, .int (nI cn), .ref mLe, .ref mSz, .int (nI pf), .ref mLo, .ref mHi, .ref mDp, .int (nI mn), .ref mFu, .ref mFv, .ref mRw, .ref mBl, .ref mWy, .ref mFe]))] := by
  refine CI.ofV rfl (by decide +kernel) rfl (Nat.le_of_ble_eq_true rfl) ?_
  intro κ x hret
  refine V_aload_n x 0 dX7_wipe_0 rfl rfl ?_
  refine V_iconst (v := nI 0) x dX7_wipe_1 (by decide +kernel) ?_
  refine V_put (ty := .int) x 0 7 0 [(hM, .inr (7, [.int (nI 0), .int (nI ty), .ref mTx, .int (nI wr), .ref mPg, .int (nI cn), .ref mLe, .ref mSz, .int (nI pf), .ref mLo, .ref mHi, .ref mDp, .int (nI mn), .ref mFu, .ref mFv, .ref mRw, .ref mBl, .ref mWy, .ref mFe]))] hinX7 tyX7 tyX7_ok nmX7 rfl rfl (by decide) flX7_50 rfl (by decide +kernel) rfl rfl (Nat.le_of_ble_eq_true rfl) rfl dX7_wipe_2 ?_
  refine V_aload_n x 0 dX7_wipe_5 rfl rfl ?_
  refine V_callVi x (m_take l D cI cZ cC cJ hM mTx mPg mLe mSz mLo mHi mDp mFu mFv mRw mBl mWy mFe 0 ty wr cn pf mn ) 0 (gdV mlX7_57 imX7_take seX7_take inX7 coX7_take) rfl hdX7_take ⟨Nat.le_of_ble_eq_true rfl, Nat.le_of_ble_eq_true rfl⟩ ⟨rfl, rfl⟩ 0 rfl rfl rfl [0] [(hM, .inr (7, [.int (nI 0), .int (nI 0), .ref mTx, .int (nI wr), .ref mPg, .int (nI cn), .ref mLe, .ref mSz, .int (nI pf), .ref mLo, .ref mHi, .ref mDp, .int (nI mn), .ref mFu, .ref mFv, .ref mRw, .ref mBl, .ref mWy, .ref mFe]))] rfl rfl [hM] rfl rfl [some 0] rfl rfl (rest := []) rfl (Nat.le_of_ble_eq_true rfl) dX7_wipe_6 ⟨Nat.zero_le _, Nat.zero_le _⟩ ?_
  exact hret _ _ dX7_wipe_9
set_option maxHeartbeats 4000000 in
set_option maxRecDepth 100000 in
theorem m_words (l : Launch) (D : va_G) (cI cZ cC cJ : ClassId) (hM mTx mPg mLe mSz mLo mHi mDp mFu mFv mRw mBl mWy mFe : Nat) (ft : Nat) (ty : Nat) (wr : Nat) (cn : Nat) (pf : Nat) (mn : Nat)  : CI l yX7_words wsX7_words { frames := 0, cells := 0, slots := 0, locals := 0 } D vwCl (tys4 cI cZ cC cJ) [.ref hM] [(hM, .inr (7, [.int (nI ft), .int (nI ty), .ref mTx, .int (nI wr), .ref mPg, .int (nI cn), .ref mLe, .ref mSz, .int (nI pf), .ref mLo, .ref mHi, .ref mDp, .int (nI mn), .ref mFu, .ref mFv, .ref mRw, .ref mBl, .ref mWy, .ref mFe]))] ((nI cn)) [(hM, .inr (7, [.int (nI 0), .int (nI ty), .ref mTx, .int (nI wr), .ref mPg, .int (nI cn), .ref mLe, .ref mSz, .int (nI pf), .ref mLo, .ref mHi, .ref mDp, .int (nI mn), .ref mFu, .ref mFv, .ref mRw, .ref mBl, .ref mWy, .ref mFe]))] := by
  refine CI.ofV rfl (by decide +kernel) rfl (Nat.le_of_ble_eq_true rfl) ?_
  intro κ x hret
  refine V_aload_n x 0 dX7_words_0 rfl rfl ?_
  refine V_iconst (v := nI 0) x dX7_words_1 (by decide +kernel) ?_
  refine V_put (ty := .int) x 0 7 0 [(hM, .inr (7, [.int (nI 0), .int (nI ty), .ref mTx, .int (nI wr), .ref mPg, .int (nI cn), .ref mLe, .ref mSz, .int (nI pf), .ref mLo, .ref mHi, .ref mDp, .int (nI mn), .ref mFu, .ref mFv, .ref mRw, .ref mBl, .ref mWy, .ref mFe]))] hinX7 tyX7 tyX7_ok nmX7 rfl rfl (by decide) flX7_50 rfl (by decide +kernel) rfl rfl (Nat.le_of_ble_eq_true rfl) rfl dX7_words_2 ?_
  refine V_aload_n x 0 dX7_words_5 rfl rfl ?_
  refine V_get x 0 7 5 hinX7 rfl rfl (by decide) flX7_65 rfl dX7_words_6 ?_
  exact hret _ _ dX7_words_9
set_option maxHeartbeats 4000000 in
set_option maxRecDepth 100000 in
theorem m_length (l : Launch) (D : va_G) (cI cZ cC cJ : ClassId) (hM mTx mPg mLe mSz mLo mHi mDp mFu mFv mRw mBl mWy mFe : Nat) (ft : Nat) (ty : Nat) (wr : Nat) (cn : Nat) (pf : Nat) (mn : Nat)  : CI l yX7_length wsX7_length { frames := 0, cells := 0, slots := 0, locals := 0 } D vwCl (tys4 cI cZ cC cJ) [.ref hM] [(hM, .inr (7, [.int (nI ft), .int (nI ty), .ref mTx, .int (nI wr), .ref mPg, .int (nI cn), .ref mLe, .ref mSz, .int (nI pf), .ref mLo, .ref mHi, .ref mDp, .int (nI mn), .ref mFu, .ref mFv, .ref mRw, .ref mBl, .ref mWy, .ref mFe]))] ((nI wr)) [(hM, .inr (7, [.int (nI 0), .int (nI ty), .ref mTx, .int (nI wr), .ref mPg, .int (nI cn), .ref mLe, .ref mSz, .int (nI pf), .ref mLo, .ref mHi, .ref mDp, .int (nI mn), .ref mFu, .ref mFv, .ref mRw, .ref mBl, .ref mWy, .ref mFe]))] := by
  refine CI.ofV rfl (by decide +kernel) rfl (Nat.le_of_ble_eq_true rfl) ?_
  intro κ x hret
  refine V_aload_n x 0 dX7_length_0 rfl rfl ?_
  refine V_iconst (v := nI 0) x dX7_length_1 (by decide +kernel) ?_
  refine V_put (ty := .int) x 0 7 0 [(hM, .inr (7, [.int (nI 0), .int (nI ty), .ref mTx, .int (nI wr), .ref mPg, .int (nI cn), .ref mLe, .ref mSz, .int (nI pf), .ref mLo, .ref mHi, .ref mDp, .int (nI mn), .ref mFu, .ref mFv, .ref mRw, .ref mBl, .ref mWy, .ref mFe]))] hinX7 tyX7 tyX7_ok nmX7 rfl rfl (by decide) flX7_50 rfl (by decide +kernel) rfl rfl (Nat.le_of_ble_eq_true rfl) rfl dX7_length_2 ?_
  refine V_aload_n x 0 dX7_length_5 rfl rfl ?_
  refine V_get x 0 7 3 hinX7 rfl rfl (by decide) flX7_87 rfl dX7_length_6 ?_
  exact hret _ _ dX7_length_9
set_option maxHeartbeats 4000000 in
set_option maxRecDepth 100000 in
theorem m_charAt (l : Launch) (D : va_G) (cI cZ cC cJ : ClassId) (hM mTx mPg mLe mSz mLo mHi mDp mFu mFv mRw mBl mWy mFe : Nat) (ft : Nat) (ty : Nat) (wr : Nat) (cn : Nat) (pf : Nat) (mn : Nat) (pg : Nat → Nat) (p : Nat) (hp : p < wr) (hw : wr ≤ 120) (hpg : ∀ i, pg i < 65536) : CI l yX7_charAt wsX7_charAt { frames := 0, cells := 0, slots := 0, locals := 0 } D vwCl (tys4 cI cZ cC cJ) [.ref hM, .int (nI p)] [(hM, .inr (7, [.int (nI ft), .int (nI ty), .ref mTx, .int (nI wr), .ref mPg, .int (nI cn), .ref mLe, .ref mSz, .int (nI pf), .ref mLo, .ref mHi, .ref mDp, .int (nI mn), .ref mFu, .ref mFv, .ref mRw, .ref mBl, .ref mWy, .ref mFe])), (mPg, .inl (cI, 120, .inl (fun i => nI (pg i))))] ((nI (pg p))) [(hM, .inr (7, [.int (nI 0), .int (nI ty), .ref mTx, .int (nI wr), .ref mPg, .int (nI cn), .ref mLe, .ref mSz, .int (nI pf), .ref mLo, .ref mHi, .ref mDp, .int (nI mn), .ref mFu, .ref mFv, .ref mRw, .ref mBl, .ref mWy, .ref mFe])), (mPg, .inl (cI, 120, .inl (fun i => nI (pg i))))] := by
  refine CI.ofV (nar_ch2 (hpg p)) (by decide +kernel) rfl (Nat.le_of_ble_eq_true rfl) ?_
  intro κ x hret
  refine V_aload_n x 0 dX7_charAt_0 rfl rfl ?_
  refine V_iconst (v := nI 0) x dX7_charAt_1 (by decide +kernel) ?_
  refine V_put (ty := .int) x 0 7 0 [(hM, .inr (7, [.int (nI 0), .int (nI ty), .ref mTx, .int (nI wr), .ref mPg, .int (nI cn), .ref mLe, .ref mSz, .int (nI pf), .ref mLo, .ref mHi, .ref mDp, .int (nI mn), .ref mFu, .ref mFv, .ref mRw, .ref mBl, .ref mWy, .ref mFe])), (mPg, .inl (cI, 120, .inl (fun i => nI (pg i))))] hinX7 tyX7 tyX7_ok nmX7 rfl rfl (by decide) flX7_50 rfl (by decide +kernel) rfl rfl (Nat.le_of_ble_eq_true rfl) rfl dX7_charAt_2 ?_
  refine V_iload_n x 1 dX7_charAt_5 rfl rfl ?_
  refine V_if_ltN x 17 dX7_charAt_6 rfl (fun t6 => ?_) (fun f6 => ?_)
  · skip
    exact t6.elim
  · skip
    refine V_iload_n x 1 dX7_charAt_9 rfl rfl ?_
    refine V_aload_n x 0 dX7_charAt_10 rfl rfl ?_
    refine V_get x 0 7 3 hinX7 rfl rfl (by decide) flX7_87 rfl dX7_charAt_11 ?_
    refine V_icmp_ltN x 22 dX7_charAt_14 rfl (fun t14 => ?_) (fun f14 => ?_)
    · skip
      refine V_aload_n x 0 dX7_charAt_22 rfl rfl ?_
      refine V_get x 0 7 4 hinX7 rfl rfl (by decide) flX7_13 rfl dX7_charAt_23 ?_
      refine V_iload_n x 1 dX7_charAt_26 rfl rfl ?_
      refine V_iald x 1 0 rfl rfl dX7_charAt_27 (by omega) (by omega) ?_
      refine V_i2c x (nI (pg p)) dX7_charAt_28 (i2c_N (hpg p)) ?_
      exact hret _ _ dX7_charAt_29
    · skip
      omega
set_option maxHeartbeats 4000000 in
set_option maxRecDepth 100000 in
theorem m_charAtZ (l : Launch) (D : va_G) (cI cZ cC cJ : ClassId) (hM mTx mPg mLe mSz mLo mHi mDp mFu mFv mRw mBl mWy mFe : Nat) (ft : Nat) (ty : Nat) (wr : Nat) (cn : Nat) (pf : Nat) (mn : Nat) (pg : Nat → Nat) (z : Int32) (hz : ¬ (0 ≤ z ∧ z < nI wr)) : CI l yX7_charAt wsX7_charAt { frames := 0, cells := 0, slots := 0, locals := 0 } D vwCl (tys4 cI cZ cC cJ) [.ref hM, .int z] [(hM, .inr (7, [.int (nI ft), .int (nI ty), .ref mTx, .int (nI wr), .ref mPg, .int (nI cn), .ref mLe, .ref mSz, .int (nI pf), .ref mLo, .ref mHi, .ref mDp, .int (nI mn), .ref mFu, .ref mFv, .ref mRw, .ref mBl, .ref mWy, .ref mFe])), (mPg, .inl (cI, 120, .inl (fun i => nI (pg i))))] ((nI 32)) [(hM, .inr (7, [.int (nI 0), .int (nI ty), .ref mTx, .int (nI wr), .ref mPg, .int (nI cn), .ref mLe, .ref mSz, .int (nI pf), .ref mLo, .ref mHi, .ref mDp, .int (nI mn), .ref mFu, .ref mFv, .ref mRw, .ref mBl, .ref mWy, .ref mFe])), (mPg, .inl (cI, 120, .inl (fun i => nI (pg i))))] := by
  refine CI.ofV (nar_ch2 (by omega)) (by decide +kernel) rfl (Nat.le_of_ble_eq_true rfl) ?_
  intro κ x hret
  refine V_aload_n x 0 dX7_charAt_0 rfl rfl ?_
  refine V_iconst (v := nI 0) x dX7_charAt_1 (by decide +kernel) ?_
  refine V_put (ty := .int) x 0 7 0 [(hM, .inr (7, [.int (nI 0), .int (nI ty), .ref mTx, .int (nI wr), .ref mPg, .int (nI cn), .ref mLe, .ref mSz, .int (nI pf), .ref mLo, .ref mHi, .ref mDp, .int (nI mn), .ref mFu, .ref mFv, .ref mRw, .ref mBl, .ref mWy, .ref mFe])), (mPg, .inl (cI, 120, .inl (fun i => nI (pg i))))] hinX7 tyX7 tyX7_ok nmX7 rfl rfl (by decide) flX7_50 rfl (by decide +kernel) rfl rfl (Nat.le_of_ble_eq_true rfl) rfl dX7_charAt_2 ?_
  refine V_iload_n x 1 dX7_charAt_5 rfl rfl ?_
  refine V_if_lt x 17 dX7_charAt_6 rfl (fun t6 => ?_) (fun f6 => ?_)
  · skip
    refine V_bipush (v := nI 32) x dX7_charAt_17 (by decide +kernel) ?_
    refine V_goto x 29 dX7_charAt_19 rfl ?_
    exact hret _ _ dX7_charAt_29
  · skip
    refine V_iload_n x 1 dX7_charAt_9 rfl rfl ?_
    refine V_aload_n x 0 dX7_charAt_10 rfl rfl ?_
    refine V_get x 0 7 3 hinX7 rfl rfl (by decide) flX7_87 rfl dX7_charAt_11 ?_
    refine V_icmp_lt x 22 dX7_charAt_14 rfl (fun t14 => ?_) (fun f14 => ?_)
    · skip
      exact absurd ⟨Int32.not_lt.mp f6, t14⟩ hz
    · skip
      refine V_bipush (v := nI 32) x dX7_charAt_17 (by decide +kernel) ?_
      refine V_goto x 29 dX7_charAt_19 rfl ?_
      exact hret _ _ dX7_charAt_29
set_option maxHeartbeats 4000000 in
set_option maxRecDepth 100000 in
theorem m_rank (l : Launch) (D : va_G) (cI cZ cC cJ : ClassId) (hM mTx mPg mLe mSz mLo mHi mDp mFu mFv mRw mBl mWy mFe : Nat) (ft : Nat) (ty : Nat) (wr : Nat) (cn : Nat) (pf : Nat) (mn : Nat) (tx : Nat → Nat) (le : Nat → Nat) (sz : Nat → Nat) (hty : ty ≤ 60) (hcn : cn ≤ 30) (htx : ∀ i, tx i < 65536) (hle : ∀ i, le i ≤ 8) (hsz : ∀ i, sz i ≤ 7) : CI l yX7_rank wsX7_rank { frames := 3, cells := 0, slots := 0, locals := 70 } D vwCl (tys4 cI cZ cC cJ) [.ref hM] [(hM, .inr (7, [.int (nI ft), .int (nI ty), .ref mTx, .int (nI wr), .ref mPg, .int (nI cn), .ref mLe, .ref mSz, .int (nI pf), .ref mLo, .ref mHi, .ref mDp, .int (nI mn), .ref mFu, .ref mFv, .ref mRw, .ref mBl, .ref mWy, .ref mFe])), (mTx, .inl (cI, 60, .inl (fun i => nI (tx i)))), (mLe, .inl (cI, 217, .inl (fun i => nI (le i)))), (mSz, .inl (cI, 31, .inl (fun i => nI (sz i))))] ((oN (mnb tx le sz cn 0 ty))) [(hM, .inr (7, [.int (nI 0), .int (nI 0), .ref mTx, .int (nI wr), .ref mPg, .int (nI cn), .ref mLe, .ref mSz, .int (nI pf), .ref mLo, .ref mHi, .ref mDp, .int (nI mn), .ref mFu, .ref mFv, .ref mRw, .ref mBl, .ref mWy, .ref mFe])), (mTx, .inl (cI, 60, .inl (fun i => nI (tx i)))), (mLe, .inl (cI, 217, .inl (fun i => nI (le i)))), (mSz, .inl (cI, 31, .inl (fun i => nI (sz i))))] := by
  refine CI.ofV rfl (by decide +kernel) rfl (Nat.le_of_ble_eq_true rfl) ?_
  intro κ x hret
  refine V_aload_n x 0 dX7_rank_0 rfl rfl ?_
  refine V_iconst (v := nI 0) x dX7_rank_1 (by decide +kernel) ?_
  refine V_put (ty := .int) x 0 7 0 [(hM, .inr (7, [.int (nI 0), .int (nI ty), .ref mTx, .int (nI wr), .ref mPg, .int (nI cn), .ref mLe, .ref mSz, .int (nI pf), .ref mLo, .ref mHi, .ref mDp, .int (nI mn), .ref mFu, .ref mFv, .ref mRw, .ref mBl, .ref mWy, .ref mFe])), (mTx, .inl (cI, 60, .inl (fun i => nI (tx i)))), (mLe, .inl (cI, 217, .inl (fun i => nI (le i)))), (mSz, .inl (cI, 31, .inl (fun i => nI (sz i))))] hinX7 tyX7 tyX7_ok nmX7 rfl rfl (by decide) flX7_50 rfl (by decide +kernel) rfl rfl (Nat.le_of_ble_eq_true rfl) rfl dX7_rank_2 ?_
  refine V_aload_n x 0 dX7_rank_5 rfl rfl ?_
  refine V_iconst (v := nI 0) x dX7_rank_6 (by decide +kernel) ?_
  refine V_aload_n x 0 dX7_rank_7 rfl rfl ?_
  refine V_callVi x (m_take l D cI cZ cC cJ hM mTx mPg mLe mSz mLo mHi mDp mFu mFv mRw mBl mWy mFe 0 ty wr cn pf mn ) 0 (gdV mlX7_57 imX7_take seX7_take inX7 coX7_take) rfl hdX7_take ⟨Nat.le_of_ble_eq_true rfl, Nat.le_of_ble_eq_true rfl⟩ ⟨rfl, rfl⟩ 0 rfl rfl rfl [0] [(hM, .inr (7, [.int (nI 0), .int (nI 0), .ref mTx, .int (nI wr), .ref mPg, .int (nI cn), .ref mLe, .ref mSz, .int (nI pf), .ref mLo, .ref mHi, .ref mDp, .int (nI mn), .ref mFu, .ref mFv, .ref mRw, .ref mBl, .ref mWy, .ref mFe])), (mTx, .inl (cI, 60, .inl (fun i => nI (tx i)))), (mLe, .inl (cI, 217, .inl (fun i => nI (le i)))), (mSz, .inl (cI, 31, .inl (fun i => nI (sz i))))] rfl rfl [hM] rfl rfl [some 0] rfl rfl (rest := [.int (nI 0), .ref hM]) rfl (Nat.le_of_ble_eq_true rfl) dX7_rank_8 ⟨Nat.zero_le _, Nat.zero_le _⟩ ?_
  refine V_callVi x (m_numberOf l D cI cZ cC cJ hM mTx mPg mLe mSz mLo mHi mDp mFu mFv mRw mBl mWy mFe 0 0 wr cn pf mn tx le sz 0 ty (by first | omega | assumption) (by first | omega | assumption) (by first | omega | assumption) (by first | omega | assumption) (by first | omega | assumption)) 2 (gdV mlX7_76 imX7_numberOf seX7_numberOf inX7 coX7_numberOf) rfl hdX7_numberOf ⟨Nat.le_of_ble_eq_true rfl, Nat.le_of_ble_eq_true rfl⟩ ⟨rfl, rfl⟩ 0 rfl rfl rfl [0, 1, 2, 3] [(hM, .inr (7, [.int (nI 0), .int (nI 0), .ref mTx, .int (nI wr), .ref mPg, .int (nI cn), .ref mLe, .ref mSz, .int (nI pf), .ref mLo, .ref mHi, .ref mDp, .int (nI mn), .ref mFu, .ref mFv, .ref mRw, .ref mBl, .ref mWy, .ref mFe])), (mTx, .inl (cI, 60, .inl (fun i => nI (tx i)))), (mLe, .inl (cI, 217, .inl (fun i => nI (le i)))), (mSz, .inl (cI, 31, .inl (fun i => nI (sz i))))] rfl rfl [hM, mTx, mLe, mSz] rfl rfl [some 0, some 1, some 2, some 3] rfl rfl (rest := []) rfl (Nat.le_of_ble_eq_true rfl) dX7_rank_11 ⟨Nat.zero_le _, Nat.zero_le _⟩ ?_
  exact hret _ _ dX7_rank_14
set_option maxHeartbeats 4000000 in
set_option maxRecDepth 100000 in
theorem m_starting (l : Launch) (D : va_G) (cI cZ cC cJ : ClassId) (hM mTx mPg mLe mSz mLo mHi mDp mFu mFv mRw mBl mWy mFe : Nat) (ft : Nat) (ty : Nat) (wr : Nat) (cn : Nat) (pf : Nat) (mn : Nat) (tx : Nat → Nat) (le : Nat → Nat) (sz : Nat → Nat) (hty : ty ≤ 60) (hcn : cn ≤ 30) (htx : ∀ i, tx i < 65536) (hle : ∀ i, le i ≤ 8) (hsz : ∀ i, sz i ≤ 7) : CI l yX7_starting wsX7_starting { frames := 2, cells := 0, slots := 0, locals := 45 } D vwCl (tys4 cI cZ cC cJ) [.ref hM] [(hM, .inr (7, [.int (nI ft), .int (nI ty), .ref mTx, .int (nI wr), .ref mPg, .int (nI cn), .ref mLe, .ref mSz, .int (nI pf), .ref mLo, .ref mHi, .ref mDp, .int (nI mn), .ref mFu, .ref mFv, .ref mRw, .ref mBl, .ref mWy, .ref mFe])), (mTx, .inl (cI, 60, .inl (fun i => nI (tx i)))), (mLe, .inl (cI, 217, .inl (fun i => nI (le i)))), (mSz, .inl (cI, 31, .inl (fun i => nI (sz i))))] ((nI (mst tx le sz ty cn))) [(hM, .inr (7, [.int (nI 0), .int (nI 0), .ref mTx, .int (nI wr), .ref mPg, .int (nI cn), .ref mLe, .ref mSz, .int (nI pf), .ref mLo, .ref mHi, .ref mDp, .int (nI mn), .ref mFu, .ref mFv, .ref mRw, .ref mBl, .ref mWy, .ref mFe])), (mTx, .inl (cI, 60, .inl (fun i => nI (tx i)))), (mLe, .inl (cI, 217, .inl (fun i => nI (le i)))), (mSz, .inl (cI, 31, .inl (fun i => nI (sz i))))] := by
  refine CI.ofV rfl (by decide +kernel) rfl (Nat.le_of_ble_eq_true rfl) ?_
  intro κ x hret
  refine V_aload_n x 0 dX7_starting_0 rfl rfl ?_
  refine V_iconst (v := nI 0) x dX7_starting_1 (by decide +kernel) ?_
  refine V_put (ty := .int) x 0 7 0 [(hM, .inr (7, [.int (nI 0), .int (nI ty), .ref mTx, .int (nI wr), .ref mPg, .int (nI cn), .ref mLe, .ref mSz, .int (nI pf), .ref mLo, .ref mHi, .ref mDp, .int (nI mn), .ref mFu, .ref mFv, .ref mRw, .ref mBl, .ref mWy, .ref mFe])), (mTx, .inl (cI, 60, .inl (fun i => nI (tx i)))), (mLe, .inl (cI, 217, .inl (fun i => nI (le i)))), (mSz, .inl (cI, 31, .inl (fun i => nI (sz i))))] hinX7 tyX7 tyX7_ok nmX7 rfl rfl (by decide) flX7_50 rfl (by decide +kernel) rfl rfl (Nat.le_of_ble_eq_true rfl) rfl dX7_starting_2 ?_
  refine V_aload_n x 0 dX7_starting_5 rfl rfl ?_
  refine V_callVi x (m_take l D cI cZ cC cJ hM mTx mPg mLe mSz mLo mHi mDp mFu mFv mRw mBl mWy mFe 0 ty wr cn pf mn ) 0 (gdV mlX7_57 imX7_take seX7_take inX7 coX7_take) rfl hdX7_take ⟨Nat.le_of_ble_eq_true rfl, Nat.le_of_ble_eq_true rfl⟩ ⟨rfl, rfl⟩ 0 rfl rfl rfl [0] [(hM, .inr (7, [.int (nI 0), .int (nI 0), .ref mTx, .int (nI wr), .ref mPg, .int (nI cn), .ref mLe, .ref mSz, .int (nI pf), .ref mLo, .ref mHi, .ref mDp, .int (nI mn), .ref mFu, .ref mFv, .ref mRw, .ref mBl, .ref mWy, .ref mFe])), (mTx, .inl (cI, 60, .inl (fun i => nI (tx i)))), (mLe, .inl (cI, 217, .inl (fun i => nI (le i)))), (mSz, .inl (cI, 31, .inl (fun i => nI (sz i))))] rfl rfl [hM] rfl rfl [some 0] rfl rfl (rest := []) rfl (Nat.le_of_ble_eq_true rfl) dX7_starting_6 ⟨Nat.zero_le _, Nat.zero_le _⟩ ?_
  refine V_istore_n x 1 [(1, .int (nI ty)), (0, .ref hM)] dX7_starting_9 rfl (by decide) rfl ?_
  refine V_iconst (v := nI 0) x dX7_starting_10 (by decide +kernel) ?_
  refine V_istore_n x 2 [(2, .int (nI 0)), (1, .int (nI ty)), (0, .ref hM)] dX7_starting_11 rfl (by decide) rfl ?_
  refine V_iconst (v := nI 0) x dX7_starting_12 (by decide +kernel) ?_
  refine V_istore_n x 3 [(3, .int (nI 0)), (2, .int (nI 0)), (1, .int (nI ty)), (0, .ref hM)] dX7_starting_13 rfl (by decide) rfl ?_
  have L14 : ∀ (k14 : Nat) (k : Nat) (c : Nat) (hk : k ≤ cn) (e1 : mst tx le sz ty k = c) (hk14 : cn - k = k14), V κ 0 0 [(hM, .inr (7, [.int (nI 0), .int (nI 0), .ref mTx, .int (nI wr), .ref mPg, .int (nI cn), .ref mLe, .ref mSz, .int (nI pf), .ref mLo, .ref mHi, .ref mDp, .int (nI mn), .ref mFu, .ref mFv, .ref mRw, .ref mBl, .ref mWy, .ref mFe])), (mTx, .inl (cI, 60, .inl (fun i => nI (tx i)))), (mLe, .inl (cI, 217, .inl (fun i => nI (le i)))), (mSz, .inl (cI, 31, .inl (fun i => nI (sz i))))] 14 [(0, .ref hM), (1, .int (nI ty)), (2, .int (nI c)), (3, .int (nI k))] [] := by
    intro k14
    induction k14 using Nat.strongRecOn with
    | ind k14 ih14 =>
      intro k c hk e1 hk14
      refine V_iload_n x 3 dX7_starting_14 rfl rfl ?_
      refine V_aload_n x 0 dX7_starting_15 rfl rfl ?_
      refine V_get x 0 7 5 hinX7 rfl rfl (by decide) flX7_65 rfl dX7_starting_16 ?_
      refine V_icmp_geN x 45 dX7_starting_19 rfl (fun t19 => ?_) (fun f19 => ?_)
      · skip
        refine V_iload_n x 2 dX7_starting_45 rfl rfl ?_
        refine V.ci (x' := nI (mst tx le sz ty cn)) (by rw [← e1, show k = cn by omega]) ?_
        exact hret _ _ dX7_starting_46
      · skip
        refine V_aload_n x 0 dX7_starting_22 rfl rfl ?_
        refine V_iload_n x 3 dX7_starting_23 rfl rfl ?_
        refine V_iload_n x 1 dX7_starting_24 rfl rfl ?_
        refine V_callVi x (m_beginsWith l D cI cZ cC cJ hM mTx mPg mLe mSz mLo mHi mDp mFu mFv mRw mBl mWy mFe 0 0 wr cn pf mn tx le sz k ty (by first | omega | assumption) (by first | omega | assumption) (by first | omega | assumption) (by first | omega | assumption) (by first | omega | assumption)) 2 (gdV mlX7_97 imX7_beginsWith seX7_beginsWith inX7 coX7_beginsWith) rfl hdX7_beginsWith ⟨Nat.le_of_ble_eq_true rfl, Nat.le_of_ble_eq_true rfl⟩ ⟨rfl, rfl⟩ 0 rfl rfl rfl [0, 1, 2, 3] [(hM, .inr (7, [.int (nI 0), .int (nI 0), .ref mTx, .int (nI wr), .ref mPg, .int (nI cn), .ref mLe, .ref mSz, .int (nI pf), .ref mLo, .ref mHi, .ref mDp, .int (nI mn), .ref mFu, .ref mFv, .ref mRw, .ref mBl, .ref mWy, .ref mFe])), (mTx, .inl (cI, 60, .inl (fun i => nI (tx i)))), (mLe, .inl (cI, 217, .inl (fun i => nI (le i)))), (mSz, .inl (cI, 31, .inl (fun i => nI (sz i))))] rfl rfl [hM, mTx, mLe, mSz] rfl rfl [some 0, some 1, some 2, some 3] rfl rfl (rest := []) rfl (Nat.le_of_ble_eq_true rfl) dX7_starting_25 ⟨Nat.zero_le _, Nat.zero_le _⟩ ?_
        refine V_if_eqB x 37 dX7_starting_28 rfl (fun t28 => ?_) (fun f28 => ?_)
        · skip
          refine V_iload_n x 2 dX7_starting_37 rfl rfl ?_
          refine V_istore_n x 2 [(2, .int (nI c)), (0, .ref hM), (1, .int (nI ty)), (3, .int (nI k))] dX7_starting_38 rfl (by decide) rfl ?_
          refine V_iinc x 3 3 [(3, .int (nI (k + 1))), (2, .int (nI c)), (0, .ref hM), (1, .int (nI ty))] dX7_starting_39 rfl (iinc_1 _) (by decide) rfl ?_
          refine V_goto x 14 dX7_starting_42 rfl ?_
          refine V.sub [2, 3, 1, 0] (lv' := [(0, .ref hM), (1, .int (nI ty)), (2, .int (nI c)), (3, .int (nI ((k + 1))))]) rfl ?_
          exact ih14 (cn - (k + 1)) (by omega) (k + 1) c (by omega) (by rw [mst, e1]; first | (rw [if_pos f28]; done) | (rw [if_neg (by rw [t28]; decide)])) rfl
        · skip
          refine V_iload_n x 2 dX7_starting_31 rfl rfl ?_
          refine V_iconst (v := nI 1) x dX7_starting_32 (by decide +kernel) ?_
          refine V_iadd x (nI (c + 1)) dX7_starting_33 (nI_add _ _) ?_
          refine V_goto x 38 dX7_starting_34 rfl ?_
          refine V_istore_n x 2 [(2, .int (nI (c + 1))), (0, .ref hM), (1, .int (nI ty)), (3, .int (nI k))] dX7_starting_38 rfl (by decide) rfl ?_
          refine V_iinc x 3 3 [(3, .int (nI (k + 1))), (2, .int (nI (c + 1))), (0, .ref hM), (1, .int (nI ty))] dX7_starting_39 rfl (iinc_1 _) (by decide) rfl ?_
          refine V_goto x 14 dX7_starting_42 rfl ?_
          refine V.sub [2, 3, 1, 0] (lv' := [(0, .ref hM), (1, .int (nI ty)), (2, .int (nI ((c + 1)))), (3, .int (nI ((k + 1))))]) rfl ?_
          exact ih14 (cn - (k + 1)) (by omega) (k + 1) (c + 1) (by omega) (by rw [mst, e1]; first | (rw [if_pos f28]; done) | (rw [if_neg (by rw [t28]; decide)])) rfl
  refine V.sub [3, 2, 1, 0] (lv' := [(0, .ref hM), (1, .int (nI ty)), (2, .int (nI 0)), (3, .int (nI 0))]) rfl ?_
  exact L14 _ 0 0 (by omega) rfl rfl
set_option maxHeartbeats 4000000 in
set_option maxRecDepth 100000 in
theorem m_longest (l : Launch) (D : va_G) (cI cZ cC cJ : ClassId) (hM mTx mPg mLe mSz mLo mHi mDp mFu mFv mRw mBl mWy mFe : Nat) (ft : Nat) (ty : Nat) (wr : Nat) (cn : Nat) (pf : Nat) (mn : Nat) (tx : Nat → Nat) (le : Nat → Nat) (sz : Nat → Nat) (hty : ty ≤ 60) (hcn : cn ≤ 30) (htx : ∀ i, tx i < 65536) (hle : ∀ i, le i ≤ 8) (hsz : ∀ i, sz i ≤ 7) : CI l yX7_longest wsX7_longest { frames := 3, cells := 0, slots := 0, locals := 70 } D vwCl (tys4 cI cZ cC cJ) [.ref hM] [(hM, .inr (7, [.int (nI ft), .int (nI ty), .ref mTx, .int (nI wr), .ref mPg, .int (nI cn), .ref mLe, .ref mSz, .int (nI pf), .ref mLo, .ref mHi, .ref mDp, .int (nI mn), .ref mFu, .ref mFv, .ref mRw, .ref mBl, .ref mWy, .ref mFe])), (mTx, .inl (cI, 60, .inl (fun i => nI (tx i)))), (mLe, .inl (cI, 217, .inl (fun i => nI (le i)))), (mSz, .inl (cI, 31, .inl (fun i => nI (sz i))))] ((oN (mlg tx le sz cn (min 7 ty)))) [(hM, .inr (7, [.int (nI 0), .int (nI 0), .ref mTx, .int (nI wr), .ref mPg, .int (nI cn), .ref mLe, .ref mSz, .int (nI pf), .ref mLo, .ref mHi, .ref mDp, .int (nI mn), .ref mFu, .ref mFv, .ref mRw, .ref mBl, .ref mWy, .ref mFe])), (mTx, .inl (cI, 60, .inl (fun i => nI (tx i)))), (mLe, .inl (cI, 217, .inl (fun i => nI (le i)))), (mSz, .inl (cI, 31, .inl (fun i => nI (sz i))))] := by
  refine CI.ofV rfl (by decide +kernel) rfl (Nat.le_of_ble_eq_true rfl) ?_
  intro κ x hret
  refine V_aload_n x 0 dX7_longest_0 rfl rfl ?_
  refine V_iconst (v := nI 0) x dX7_longest_1 (by decide +kernel) ?_
  refine V_put (ty := .int) x 0 7 0 [(hM, .inr (7, [.int (nI 0), .int (nI ty), .ref mTx, .int (nI wr), .ref mPg, .int (nI cn), .ref mLe, .ref mSz, .int (nI pf), .ref mLo, .ref mHi, .ref mDp, .int (nI mn), .ref mFu, .ref mFv, .ref mRw, .ref mBl, .ref mWy, .ref mFe])), (mTx, .inl (cI, 60, .inl (fun i => nI (tx i)))), (mLe, .inl (cI, 217, .inl (fun i => nI (le i)))), (mSz, .inl (cI, 31, .inl (fun i => nI (sz i))))] hinX7 tyX7 tyX7_ok nmX7 rfl rfl (by decide) flX7_50 rfl (by decide +kernel) rfl rfl (Nat.le_of_ble_eq_true rfl) rfl dX7_longest_2 ?_
  refine V_aload_n x 0 dX7_longest_5 rfl rfl ?_
  refine V_callVi x (m_take l D cI cZ cC cJ hM mTx mPg mLe mSz mLo mHi mDp mFu mFv mRw mBl mWy mFe 0 ty wr cn pf mn ) 0 (gdV mlX7_57 imX7_take seX7_take inX7 coX7_take) rfl hdX7_take ⟨Nat.le_of_ble_eq_true rfl, Nat.le_of_ble_eq_true rfl⟩ ⟨rfl, rfl⟩ 0 rfl rfl rfl [0] [(hM, .inr (7, [.int (nI 0), .int (nI 0), .ref mTx, .int (nI wr), .ref mPg, .int (nI cn), .ref mLe, .ref mSz, .int (nI pf), .ref mLo, .ref mHi, .ref mDp, .int (nI mn), .ref mFu, .ref mFv, .ref mRw, .ref mBl, .ref mWy, .ref mFe])), (mTx, .inl (cI, 60, .inl (fun i => nI (tx i)))), (mLe, .inl (cI, 217, .inl (fun i => nI (le i)))), (mSz, .inl (cI, 31, .inl (fun i => nI (sz i))))] rfl rfl [hM] rfl rfl [some 0] rfl rfl (rest := []) rfl (Nat.le_of_ble_eq_true rfl) dX7_longest_6 ⟨Nat.zero_le _, Nat.zero_le _⟩ ?_
  refine V_istore_n x 1 [(1, .int (nI ty)), (0, .ref hM)] dX7_longest_9 rfl (by decide) rfl ?_
  refine V_iconst (v := (-1)) x dX7_longest_10 (by decide +kernel) ?_
  refine V_istore_n x 2 [(2, .int (-1)), (1, .int (nI ty)), (0, .ref hM)] dX7_longest_11 rfl (by decide) rfl ?_
  refine V_iconst (v := nI 1) x dX7_longest_12 (by decide +kernel) ?_
  refine V_istore_n x 3 [(3, .int (nI 1)), (2, .int (-1)), (1, .int (nI ty)), (0, .ref hM)] dX7_longest_13 rfl (by decide) rfl ?_
  have L14 : ∀ (k14 : Nat) (k : Nat) (o1 : Option Nat) (hk : k ≤ 7 ∧ k ≤ ty) (e1 : mlg tx le sz cn k = o1) (hk14 : 7 - k = k14), V κ 0 0 [(hM, .inr (7, [.int (nI 0), .int (nI 0), .ref mTx, .int (nI wr), .ref mPg, .int (nI cn), .ref mLe, .ref mSz, .int (nI pf), .ref mLo, .ref mHi, .ref mDp, .int (nI mn), .ref mFu, .ref mFv, .ref mRw, .ref mBl, .ref mWy, .ref mFe])), (mTx, .inl (cI, 60, .inl (fun i => nI (tx i)))), (mLe, .inl (cI, 217, .inl (fun i => nI (le i)))), (mSz, .inl (cI, 31, .inl (fun i => nI (sz i))))] 14 [(0, .ref hM), (1, .int (nI ty)), (2, .int (oN o1)), (3, .int (nI (k + 1)))] [] := by
    intro k14
    induction k14 using Nat.strongRecOn with
    | ind k14 ih14 =>
      intro k o1 hk e1 hk14
      refine V_iload_n x 3 dX7_longest_14 rfl rfl ?_
      refine V_bipush (v := nI 7) x dX7_longest_15 (by decide +kernel) ?_
      refine V_icmp_gtN x 51 dX7_longest_17 rfl (fun t17 => ?_) (fun f17 => ?_)
      · skip
        refine V_iload_n x 2 dX7_longest_51 rfl rfl ?_
        refine V.ci (x' := oN (mlg tx le sz cn (min 7 ty))) (by rw [← e1, show min 7 ty = k by omega]) ?_
        exact hret _ _ dX7_longest_52
      · skip
        refine V_iload_n x 3 dX7_longest_20 rfl rfl ?_
        refine V_iload_n x 1 dX7_longest_21 rfl rfl ?_
        refine V_icmp_gtN x 51 dX7_longest_22 rfl (fun t22 => ?_) (fun f22 => ?_)
        · skip
          refine V_iload_n x 2 dX7_longest_51 rfl rfl ?_
          refine V.ci (x' := oN (mlg tx le sz cn (min 7 ty))) (by rw [← e1, show min 7 ty = k by omega]) ?_
          exact hret _ _ dX7_longest_52
        · skip
          refine V_aload_n x 0 dX7_longest_25 rfl rfl ?_
          refine V_iconst (v := nI 0) x dX7_longest_26 (by decide +kernel) ?_
          refine V_iload_n x 3 dX7_longest_27 rfl rfl ?_
          refine V_callVi x (m_numberOf l D cI cZ cC cJ hM mTx mPg mLe mSz mLo mHi mDp mFu mFv mRw mBl mWy mFe 0 0 wr cn pf mn tx le sz 0 (k + 1) (by first | omega | assumption) (by first | omega | assumption) (by first | omega | assumption) (by first | omega | assumption) (by first | omega | assumption)) 2 (gdV mlX7_76 imX7_numberOf seX7_numberOf inX7 coX7_numberOf) rfl hdX7_numberOf ⟨Nat.le_of_ble_eq_true rfl, Nat.le_of_ble_eq_true rfl⟩ ⟨rfl, rfl⟩ 0 rfl rfl rfl [0, 1, 2, 3] [(hM, .inr (7, [.int (nI 0), .int (nI 0), .ref mTx, .int (nI wr), .ref mPg, .int (nI cn), .ref mLe, .ref mSz, .int (nI pf), .ref mLo, .ref mHi, .ref mDp, .int (nI mn), .ref mFu, .ref mFv, .ref mRw, .ref mBl, .ref mWy, .ref mFe])), (mTx, .inl (cI, 60, .inl (fun i => nI (tx i)))), (mLe, .inl (cI, 217, .inl (fun i => nI (le i)))), (mSz, .inl (cI, 31, .inl (fun i => nI (sz i))))] rfl rfl [hM, mTx, mLe, mSz] rfl rfl [some 0, some 1, some 2, some 3] rfl rfl (rest := []) rfl (Nat.le_of_ble_eq_true rfl) dX7_longest_28 ⟨Nat.zero_le _, Nat.zero_le _⟩ ?_
          refine V_istore x 4 [(4, .int (oN (mnb tx le sz cn 0 (k + 1)))), (0, .ref hM), (1, .int (nI ty)), (2, .int (oN o1)), (3, .int (nI (k + 1)))] dX7_longest_31 (by decide) rfl ?_
          refine V_iload x 4 dX7_longest_33 rfl ?_
          refine V_if_ltO x 43 dX7_longest_35 rfl (fun z hz => by have := mnb_lt hz; omega) (fun t35 => ?_) (fun z35 f35 => ?_)
          · skip
            simp only [t35, oN_none]
            refine V_iload_n x 2 dX7_longest_43 rfl rfl ?_
            refine V_istore_n x 2 [(2, .int (oN o1)), (4, .int (-1)), (0, .ref hM), (1, .int (nI ty)), (3, .int (nI (k + 1)))] dX7_longest_44 rfl (by decide) rfl ?_
            refine V_iinc x 3 4 [(3, .int (nI ((k + 1) + 1))), (2, .int (oN o1)), (4, .int (-1)), (0, .ref hM), (1, .int (nI ty))] dX7_longest_45 rfl (iinc_1 _) (by decide) rfl ?_
            refine V_goto x 14 dX7_longest_48 rfl ?_
            refine V.sub [3, 4, 1, 0] (lv' := [(0, .ref hM), (1, .int (nI ty)), (2, .int (oN o1)), (3, .int (nI ((k + 1) + 1)))]) rfl ?_
            exact ih14 (7 - (k + 1)) (by omega) (k + 1) o1 (by omega) (by rw [mlg, e1]; first | (rw [t35]; done) | (rw [f35])) rfl
          · skip
            simp only [f35, oN_some]
            refine V_iload x 4 dX7_longest_38 rfl ?_
            refine V_goto x 44 dX7_longest_40 rfl ?_
            refine V_istore_n x 2 [(2, .int (nI z35)), (4, .int (nI z35)), (0, .ref hM), (1, .int (nI ty)), (3, .int (nI (k + 1)))] dX7_longest_44 rfl (by decide) rfl ?_
            refine V_iinc x 3 4 [(3, .int (nI ((k + 1) + 1))), (2, .int (nI z35)), (4, .int (nI z35)), (0, .ref hM), (1, .int (nI ty))] dX7_longest_45 rfl (iinc_1 _) (by decide) rfl ?_
            refine V_goto x 14 dX7_longest_48 rfl ?_
            refine V.sub [3, 4, 1, 0] (lv' := [(0, .ref hM), (1, .int (nI ty)), (2, .int (oN ((some z35)))), (3, .int (nI ((k + 1) + 1)))]) rfl ?_
            exact ih14 (7 - (k + 1)) (by omega) (k + 1) (some z35) (by omega) (by rw [mlg, e1]; first | (rw [t35]; done) | (rw [f35])) rfl
  refine V.sub [3, 2, 1, 0] (lv' := [(0, .ref hM), (1, .int (nI ty)), (2, .int (oN none)), (3, .int (nI (0 + 1)))]) rfl ?_
  exact L14 _ 0 none (by omega) rfl rfl
set_option maxHeartbeats 4000000 in
set_option maxRecDepth 100000 in
theorem m_note (l : Launch) (D : va_G) (cI cZ cC cJ : ClassId) (hM mTx mPg mLe mSz mLo mHi mDp mFu mFv mRw mBl mWy mFe : Nat) (ft : Nat) (ty : Nat) (wr : Nat) (cn : Nat) (pf : Nat) (mn : Nat) (gu : Nat → Nat) (gv : Nat → Nat) (a : Nat) (b : Nat) (hm : mn < 420) : CV l yX7_note wsX7_note { frames := 0, cells := 0, slots := 0, locals := 0 } D vwCl (tys4 cI cZ cC cJ) [.ref hM, .int (nI a), .int (nI b)] [(hM, .inr (7, [.int (nI ft), .int (nI ty), .ref mTx, .int (nI wr), .ref mPg, .int (nI cn), .ref mLe, .ref mSz, .int (nI pf), .ref mLo, .ref mHi, .ref mDp, .int (nI mn), .ref mFu, .ref mFv, .ref mRw, .ref mBl, .ref mWy, .ref mFe])), (mFu, .inl (cI, 420, .inl (fun i => nI (gu i)))), (mFv, .inl (cI, 420, .inl (fun i => nI (gv i))))] [(hM, .inr (7, [.int (nI ft), .int (nI ty), .ref mTx, .int (nI wr), .ref mPg, .int (nI cn), .ref mLe, .ref mSz, .int (nI pf), .ref mLo, .ref mHi, .ref mDp, .int (nI (mn + 1)), .ref mFu, .ref mFv, .ref mRw, .ref mBl, .ref mWy, .ref mFe])), (mFu, .inl (cI, 420, .inl (fun i => nI ((va_up gu mn a) i)))), (mFv, .inl (cI, 420, .inl (fun i => nI ((va_up gv mn b) i))))] := by
  refine CV.ofV (by decide +kernel) rfl (Nat.le_of_ble_eq_true rfl) ?_
  intro κ x hret
  refine V_aload_n x 0 dX7_note_0 rfl rfl ?_
  refine V_get x 0 7 13 hinX7 rfl rfl (by decide) flX7_31 rfl dX7_note_1 ?_
  refine V_aload_n x 0 dX7_note_4 rfl rfl ?_
  refine V_get x 0 7 12 hinX7 rfl rfl (by decide) flX7_84 rfl dX7_note_5 ?_
  refine V_iload_n x 1 dX7_note_8 rfl rfl ?_
  refine V_iast x 1 0 nI gu a [(hM, .inr (7, [.int (nI ft), .int (nI ty), .ref mTx, .int (nI wr), .ref mPg, .int (nI cn), .ref mLe, .ref mSz, .int (nI pf), .ref mLo, .ref mHi, .ref mDp, .int (nI mn), .ref mFu, .ref mFv, .ref mRw, .ref mBl, .ref mWy, .ref mFe])), (mFu, .inl (cI, 420, .inl (fun i => nI ((va_up gu mn a) i)))), (mFv, .inl (cI, 420, .inl (fun i => nI (gv i))))] rfl rfl dX7_note_9 (by omega) (by omega) rfl ?_
  refine V_aload_n x 0 dX7_note_10 rfl rfl ?_
  refine V_get x 0 7 14 hinX7 rfl rfl (by decide) flX7_34 rfl dX7_note_11 ?_
  refine V_aload_n x 0 dX7_note_14 rfl rfl ?_
  refine V_get x 0 7 12 hinX7 rfl rfl (by decide) flX7_84 rfl dX7_note_15 ?_
  refine V_iload_n x 2 dX7_note_18 rfl rfl ?_
  refine V_iast x 2 0 nI gv b [(hM, .inr (7, [.int (nI ft), .int (nI ty), .ref mTx, .int (nI wr), .ref mPg, .int (nI cn), .ref mLe, .ref mSz, .int (nI pf), .ref mLo, .ref mHi, .ref mDp, .int (nI mn), .ref mFu, .ref mFv, .ref mRw, .ref mBl, .ref mWy, .ref mFe])), (mFu, .inl (cI, 420, .inl (fun i => nI ((va_up gu mn a) i)))), (mFv, .inl (cI, 420, .inl (fun i => nI ((va_up gv mn b) i))))] rfl rfl dX7_note_19 (by omega) (by omega) rfl ?_
  refine V_aload_n x 0 dX7_note_20 rfl rfl ?_
  refine V_dup x dX7_note_21 rfl ?_
  refine V_get x 0 7 12 hinX7 rfl rfl (by decide) flX7_84 rfl dX7_note_22 ?_
  refine V_iconst (v := nI 1) x dX7_note_25 (by decide +kernel) ?_
  refine V_iadd x (nI (mn + 1)) dX7_note_26 (nI_add _ _) ?_
  refine V_put (ty := .int) x 0 7 12 [(hM, .inr (7, [.int (nI ft), .int (nI ty), .ref mTx, .int (nI wr), .ref mPg, .int (nI cn), .ref mLe, .ref mSz, .int (nI pf), .ref mLo, .ref mHi, .ref mDp, .int (nI (mn + 1)), .ref mFu, .ref mFv, .ref mRw, .ref mBl, .ref mWy, .ref mFe])), (mFu, .inl (cI, 420, .inl (fun i => nI ((va_up gu mn a) i)))), (mFv, .inl (cI, 420, .inl (fun i => nI ((va_up gv mn b) i))))] hinX7 tyX7 tyX7_ok nmX7 rfl rfl (by decide) flX7_84 rfl (by decide +kernel) rfl rfl (Nat.le_of_ble_eq_true rfl) rfl dX7_note_27 ?_
  exact hret _ _ dX7_note_30
set_option maxHeartbeats 4000000 in
set_option maxRecDepth 100000 in
theorem m_word_ok (l : Launch) (D : va_G) (cI cZ cC cJ : ClassId) (hM mTx mPg mLe mSz mLo mHi mDp mFu mFv mRw mBl mWy mFe : Nat) (ft : Nat) (ty : Nat) (wr : Nat) (cn : Nat) (pf : Nat) (mn : Nat) (pg : Nat → Nat) (le : Nat → Nat) (sz : Nat → Nat) (j : Nat) (hj : j < cn) (hcn : cn ≤ 30) (hle : ∀ i, le i ≤ 8) (hsz : ∀ i, sz i ≤ 7) (hl1 : ∀ k, k < sz j → 1 ≤ le (7 * j + k)) : CI l yX7_word wsX7_word { frames := 2, cells := 0, slots := 0, locals := 43 } D vwCl (tys4 cI cZ cC cJ) [.ref hM, .int (nI j)] [(hM, .inr (7, [.int (nI ft), .int (nI ty), .ref mTx, .int (nI wr), .ref mPg, .int (nI cn), .ref mLe, .ref mSz, .int (nI pf), .ref mLo, .ref mHi, .ref mDp, .int (nI mn), .ref mFu, .ref mFv, .ref mRw, .ref mBl, .ref mWy, .ref mFe])), (mPg, .inl (cI, 120, .inl (fun i => nI (pg i)))), (mLe, .inl (cI, 217, .inl (fun i => nI (le i)))), (mSz, .inl (cI, 31, .inl (fun i => nI (sz i))))] ((nI (sz j))) [(hM, .inr (7, [.int (nI 0), .int (nI ty), .ref mTx, .int (nI (sz j)), .ref mPg, .int (nI cn), .ref mLe, .ref mSz, .int (nI pf), .ref mLo, .ref mHi, .ref mDp, .int (nI mn), .ref mFu, .ref mFv, .ref mRw, .ref mBl, .ref mWy, .ref mFe])), (mPg, .inl (cI, 120, .inl (fun i => nI ((mpr pg 0 le j (sz j)) i)))), (mLe, .inl (cI, 217, .inl (fun i => nI (le i)))), (mSz, .inl (cI, 31, .inl (fun i => nI (sz i))))] := by
  refine CI.ofV rfl (by decide +kernel) rfl (Nat.le_of_ble_eq_true rfl) ?_
  intro κ x hret
  refine V_aload_n x 0 dX7_word_0 rfl rfl ?_
  refine V_iload_n x 1 dX7_word_1 rfl rfl ?_
  refine V_if_ltN x 13 dX7_word_2 rfl (fun t2 => ?_) (fun f2 => ?_)
  · skip
    exact t2.elim
  · skip
    refine V_iload_n x 1 dX7_word_5 rfl rfl ?_
    refine V_aload_n x 0 dX7_word_6 rfl rfl ?_
    refine V_get x 0 7 5 hinX7 rfl rfl (by decide) flX7_65 rfl dX7_word_7 ?_
    refine V_icmp_ltN x 17 dX7_word_10 rfl (fun t10 => ?_) (fun f10 => ?_)
    · skip
      refine V_iconst (v := nI 0) x dX7_word_17 (by decide +kernel) ?_
      refine V_put (ty := .int) x 0 7 0 [(hM, .inr (7, [.int (nI 0), .int (nI ty), .ref mTx, .int (nI wr), .ref mPg, .int (nI cn), .ref mLe, .ref mSz, .int (nI pf), .ref mLo, .ref mHi, .ref mDp, .int (nI mn), .ref mFu, .ref mFv, .ref mRw, .ref mBl, .ref mWy, .ref mFe])), (mPg, .inl (cI, 120, .inl (fun i => nI (pg i)))), (mLe, .inl (cI, 217, .inl (fun i => nI (le i)))), (mSz, .inl (cI, 31, .inl (fun i => nI (sz i))))] hinX7 tyX7 tyX7_ok nmX7 rfl rfl (by decide) flX7_50 rfl (by decide +kernel) rfl rfl (Nat.le_of_ble_eq_true rfl) rfl dX7_word_18 ?_
      refine V_aload_n x 0 dX7_word_21 rfl rfl ?_
      refine V_get x 0 7 0 hinX7 rfl rfl (by decide) flX7_50 rfl dX7_word_22 ?_
      refine V_if_leN x 30 dX7_word_25 rfl (fun t25 => ?_) (fun f25 => ?_)
      · skip
        refine V_aload_n x 0 dX7_word_30 rfl rfl ?_
        refine V_iconst (v := nI 0) x dX7_word_31 (by decide +kernel) ?_
        refine V_put (ty := .int) x 0 7 3 [(hM, .inr (7, [.int (nI 0), .int (nI ty), .ref mTx, .int (nI 0), .ref mPg, .int (nI cn), .ref mLe, .ref mSz, .int (nI pf), .ref mLo, .ref mHi, .ref mDp, .int (nI mn), .ref mFu, .ref mFv, .ref mRw, .ref mBl, .ref mWy, .ref mFe])), (mPg, .inl (cI, 120, .inl (fun i => nI (pg i)))), (mLe, .inl (cI, 217, .inl (fun i => nI (le i)))), (mSz, .inl (cI, 31, .inl (fun i => nI (sz i))))] hinX7 tyX7 tyX7_ok nmX7 rfl rfl (by decide) flX7_87 rfl (by decide +kernel) rfl rfl (Nat.le_of_ble_eq_true rfl) rfl dX7_word_32 ?_
        refine V_aload_n x 0 dX7_word_35 rfl rfl ?_
        refine V_iload_n x 1 dX7_word_36 rfl rfl ?_
        refine V_callVv x (m_printWord l D cI cZ cC cJ hM mTx mPg mLe mSz mLo mHi mDp mFu mFv mRw mBl mWy mFe 0 ty 0 cn pf mn pg le sz j (by first | omega | assumption) (by first | omega | assumption) (by first | omega | assumption) (by have := hsz j; omega) (by first | omega | assumption)) 1 (gdV mlX7_94 imX7_printWord seX7_printWord inX7 coX7_printWord) rfl hdX7_printWord ⟨Nat.le_of_ble_eq_true rfl, Nat.le_of_ble_eq_true rfl⟩ ⟨rfl, rfl⟩ 0 rfl rfl rfl [0, 1, 2, 3] [(hM, .inr (7, [.int (nI 0), .int (nI ty), .ref mTx, .int (nI (0 + sz j)), .ref mPg, .int (nI cn), .ref mLe, .ref mSz, .int (nI pf), .ref mLo, .ref mHi, .ref mDp, .int (nI mn), .ref mFu, .ref mFv, .ref mRw, .ref mBl, .ref mWy, .ref mFe])), (mPg, .inl (cI, 120, .inl (fun i => nI ((mpr pg 0 le j (sz j)) i)))), (mLe, .inl (cI, 217, .inl (fun i => nI (le i)))), (mSz, .inl (cI, 31, .inl (fun i => nI (sz i))))] rfl rfl [hM, mPg, mLe, mSz] rfl rfl [some 0, some 1, some 2, some 3] rfl rfl (rest := []) rfl (Nat.le_of_ble_eq_true rfl) dX7_word_37 ⟨Nat.zero_le _, Nat.zero_le _⟩ ?_
        refine V_aload_n x 0 dX7_word_40 rfl rfl ?_
        refine V_get x 0 7 3 hinX7 rfl rfl (by decide) flX7_87 rfl dX7_word_41 ?_
        rw [Nat.zero_add]
        exact hret _ _ dX7_word_44
      · skip
        omega
    · skip
      omega
set_option maxHeartbeats 4000000 in
set_option maxRecDepth 100000 in
theorem m_add_full (l : Launch) (D : va_G) (cI cZ cC cJ : ClassId) (hM mTx mPg mLe mSz mLo mHi mDp mFu mFv mRw mBl mWy mFe : Nat) (ft : Nat) (ty : Nat) (wr : Nat) (cn : Nat) (pf : Nat) (mn : Nat) (h30 : cn = 30) : CI l yX7_add wsX7_add { frames := 0, cells := 0, slots := 0, locals := 0 } D vwCl (tys4 cI cZ cC cJ) [.ref hM] [(hM, .inr (7, [.int (nI ft), .int (nI ty), .ref mTx, .int (nI wr), .ref mPg, .int (nI cn), .ref mLe, .ref mSz, .int (nI pf), .ref mLo, .ref mHi, .ref mDp, .int (nI mn), .ref mFu, .ref mFv, .ref mRw, .ref mBl, .ref mWy, .ref mFe]))] ((nI 0)) [(hM, .inr (7, [.int (nI 1), .int (nI ty), .ref mTx, .int (nI wr), .ref mPg, .int (nI cn), .ref mLe, .ref mSz, .int (nI pf), .ref mLo, .ref mHi, .ref mDp, .int (nI mn), .ref mFu, .ref mFv, .ref mRw, .ref mBl, .ref mWy, .ref mFe]))] := by
  refine CI.ofV rfl (by decide +kernel) rfl (Nat.le_of_ble_eq_true rfl) ?_
  intro κ x hret
  refine V_aload_n x 0 dX7_add_0 rfl rfl ?_
  refine V_aload_n x 0 dX7_add_1 rfl rfl ?_
  refine V_get x 0 7 5 hinX7 rfl rfl (by decide) flX7_65 rfl dX7_add_2 ?_
  refine V_bipush (v := nI 30) x dX7_add_5 (by decide +kernel) ?_
  refine V_icmp_neN x 14 dX7_add_7 rfl (fun t7 => ?_) (fun f7 => ?_)
  · skip
    omega
  · skip
    refine V_iconst (v := nI 1) x dX7_add_10 (by decide +kernel) ?_
    refine V_goto x 15 dX7_add_11 rfl ?_
    refine V_put (ty := .int) x 0 7 0 [(hM, .inr (7, [.int (nI 1), .int (nI ty), .ref mTx, .int (nI wr), .ref mPg, .int (nI cn), .ref mLe, .ref mSz, .int (nI pf), .ref mLo, .ref mHi, .ref mDp, .int (nI mn), .ref mFu, .ref mFv, .ref mRw, .ref mBl, .ref mWy, .ref mFe]))] hinX7 tyX7 tyX7_ok nmX7 rfl rfl (by decide) flX7_50 rfl (by decide +kernel) rfl rfl (Nat.le_of_ble_eq_true rfl) rfl dX7_add_15 ?_
    refine V_aload_n x 0 dX7_add_18 rfl rfl ?_
    refine V_get x 0 7 0 hinX7 rfl rfl (by decide) flX7_50 rfl dX7_add_19 ?_
    refine V_if_leN x 27 dX7_add_22 rfl (fun t22 => ?_) (fun f22 => ?_)
    · skip
      omega
    · skip
      refine V_iconst (v := nI 0) x dX7_add_25 (by decide +kernel) ?_
      exact hret _ _ dX7_add_26
