/-! contracts, laid by prog/mk.py -/
set_option maxHeartbeats 4000000 in
set_option maxRecDepth 100000 in
theorem m_add_no (l : Launch) (D : va_G) (cI cZ cC cJ : ClassId) (hM mTx mPg mLe mSz mLo mHi mDp mFu mFv mRw mBl mWy mFe : Nat) (ft : Nat) (ty : Nat) (wr : Nat) (cn : Nat) (pf : Nat) (mn : Nat) (tx : Nat → Nat) (hty : ty ≤ 60) (h30 : cn < 30) (htx : ∀ i, tx i < 65536) (hw : miw tx 0 ty ty = false) : CI l yX7_add wsX7_add { frames := 2, cells := 0, slots := 0, locals := 45 } D vwCl (tys4 cI cZ cC cJ) [.ref hM] [(hM, .inr (7, [.int (nI ft), .int (nI ty), .ref mTx, .int (nI wr), .ref mPg, .int (nI cn), .ref mLe, .ref mSz, .int (nI pf), .ref mLo, .ref mHi, .ref mDp, .int (nI mn), .ref mFu, .ref mFv, .ref mRw, .ref mBl, .ref mWy, .ref mFe])), (mTx, .inl (cI, 60, .inl (fun i => nI (tx i))))] ((-1)) [(hM, .inr (7, [.int (nI 0), .int (nI 0), .ref mTx, .int (nI wr), .ref mPg, .int (nI cn), .ref mLe, .ref mSz, .int (nI pf), .ref mLo, .ref mHi, .ref mDp, .int (nI mn), .ref mFu, .ref mFv, .ref mRw, .ref mBl, .ref mWy, .ref mFe])), (mTx, .inl (cI, 60, .inl (fun i => nI (tx i))))] := by
  refine CI.ofV rfl (by decide +kernel) rfl (Nat.le_of_ble_eq_true rfl) ?_
  intro κ x hret
  refine V_aload_n x 0 dX7_add_0 rfl rfl ?_
  refine V_aload_n x 0 dX7_add_1 rfl rfl ?_
  refine V_get x 0 7 5 hinX7 rfl rfl (by decide) flX7_65 rfl dX7_add_2 ?_
  refine V_bipush (v := nI 30) x dX7_add_5 (by decide +kernel) ?_
  refine V_icmp_neN x 14 dX7_add_7 rfl (fun t7 => ?_) (fun f7 => ?_)
  · skip
    refine V_iconst (v := nI 0) x dX7_add_14 (by decide +kernel) ?_
    refine V_put (ty := .int) x 0 7 0 [(hM, .inr (7, [.int (nI 0), .int (nI ty), .ref mTx, .int (nI wr), .ref mPg, .int (nI cn), .ref mLe, .ref mSz, .int (nI pf), .ref mLo, .ref mHi, .ref mDp, .int (nI mn), .ref mFu, .ref mFv, .ref mRw, .ref mBl, .ref mWy, .ref mFe])), (mTx, .inl (cI, 60, .inl (fun i => nI (tx i))))] hinX7 tyX7 tyX7_ok nmX7 rfl rfl (by decide) flX7_50 rfl (by decide +kernel) rfl rfl (Nat.le_of_ble_eq_true rfl) rfl dX7_add_15 ?_
    refine V_aload_n x 0 dX7_add_18 rfl rfl ?_
    refine V_get x 0 7 0 hinX7 rfl rfl (by decide) flX7_50 rfl dX7_add_19 ?_
    refine V_if_leN x 27 dX7_add_22 rfl (fun t22 => ?_) (fun f22 => ?_)
    · skip
      refine V_aload_n x 0 dX7_add_27 rfl rfl ?_
      refine V_callVi x (m_take l D cI cZ cC cJ hM mTx mPg mLe mSz mLo mHi mDp mFu mFv mRw mBl mWy mFe 0 ty wr cn pf mn ) 0 (gdV mlX7_57 imX7_take seX7_take inX7 coX7_take) rfl hdX7_take ⟨Nat.le_of_ble_eq_true rfl, Nat.le_of_ble_eq_true rfl⟩ ⟨rfl, rfl⟩ 0 rfl rfl rfl [0] [(hM, .inr (7, [.int (nI 0), .int (nI 0), .ref mTx, .int (nI wr), .ref mPg, .int (nI cn), .ref mLe, .ref mSz, .int (nI pf), .ref mLo, .ref mHi, .ref mDp, .int (nI mn), .ref mFu, .ref mFv, .ref mRw, .ref mBl, .ref mWy, .ref mFe])), (mTx, .inl (cI, 60, .inl (fun i => nI (tx i))))] rfl rfl [hM] rfl rfl [some 0] rfl rfl (rest := []) rfl (Nat.le_of_ble_eq_true rfl) dX7_add_28 ⟨Nat.zero_le _, Nat.zero_le _⟩ ?_
      refine V_istore_n x 1 [(1, .int (nI ty)), (0, .ref hM)] dX7_add_31 rfl (by decide) rfl ?_
      refine V_aload_n x 0 dX7_add_32 rfl rfl ?_
      refine V_iconst (v := nI 0) x dX7_add_33 (by decide +kernel) ?_
      refine V_iload_n x 1 dX7_add_34 rfl rfl ?_
      refine V_callVi x (m_isWord l D cI cZ cC cJ hM mTx mPg mLe mSz mLo mHi mDp mFu mFv mRw mBl mWy mFe 0 0 wr cn pf mn tx 0 ty (by first | omega | assumption) (by first | omega | assumption)) 2 (gdV mlX7_68 imX7_isWord seX7_isWord inX7 coX7_isWord) rfl hdX7_isWord ⟨Nat.le_of_ble_eq_true rfl, Nat.le_of_ble_eq_true rfl⟩ ⟨rfl, rfl⟩ 0 rfl rfl rfl [0, 1] [(hM, .inr (7, [.int (nI 0), .int (nI 0), .ref mTx, .int (nI wr), .ref mPg, .int (nI cn), .ref mLe, .ref mSz, .int (nI pf), .ref mLo, .ref mHi, .ref mDp, .int (nI mn), .ref mFu, .ref mFv, .ref mRw, .ref mBl, .ref mWy, .ref mFe])), (mTx, .inl (cI, 60, .inl (fun i => nI (tx i))))] rfl rfl [hM, mTx] rfl rfl [some 0, some 1] rfl rfl (rest := []) rfl (Nat.le_of_ble_eq_true rfl) dX7_add_35 ⟨Nat.zero_le _, Nat.zero_le _⟩ ?_
      refine V_if_neB x 43 dX7_add_38 rfl (fun t38 => ?_) (fun f38 => ?_)
      · skip
        rw [hw] at t38; cases t38
      · skip
        refine V_iconst (v := (-1)) x dX7_add_41 (by decide +kernel) ?_
        exact hret _ _ dX7_add_42
    · skip
      omega
  · skip
    omega
set_option maxHeartbeats 4000000 in
set_option maxRecDepth 100000 in
theorem m_add_had (l : Launch) (D : va_G) (cI cZ cC cJ : ClassId) (hM mTx mPg mLe mSz mLo mHi mDp mFu mFv mRw mBl mWy mFe : Nat) (ft : Nat) (ty : Nat) (wr : Nat) (cn : Nat) (pf : Nat) (mn : Nat) (tx : Nat → Nat) (le : Nat → Nat) (sz : Nat → Nat) (z : Nat) (hty : ty ≤ 60) (h30 : cn < 30) (htx : ∀ i, tx i < 65536) (hle : ∀ i, le i ≤ 8) (hsz : ∀ i, sz i ≤ 7) (hw : miw tx 0 ty ty = true) (hh : mnb tx le sz cn 0 ty = some z) : CI l yX7_add wsX7_add { frames := 3, cells := 0, slots := 0, locals := 70 } D vwCl (tys4 cI cZ cC cJ) [.ref hM] [(hM, .inr (7, [.int (nI ft), .int (nI ty), .ref mTx, .int (nI wr), .ref mPg, .int (nI cn), .ref mLe, .ref mSz, .int (nI pf), .ref mLo, .ref mHi, .ref mDp, .int (nI mn), .ref mFu, .ref mFv, .ref mRw, .ref mBl, .ref mWy, .ref mFe])), (mTx, .inl (cI, 60, .inl (fun i => nI (tx i)))), (mLe, .inl (cI, 217, .inl (fun i => nI (le i)))), (mSz, .inl (cI, 31, .inl (fun i => nI (sz i))))] ((nI 0)) [(hM, .inr (7, [.int (nI 0), .int (nI 0), .ref mTx, .int (nI wr), .ref mPg, .int (nI cn), .ref mLe, .ref mSz, .int (nI pf), .ref mLo, .ref mHi, .ref mDp, .int (nI mn), .ref mFu, .ref mFv, .ref mRw, .ref mBl, .ref mWy, .ref mFe])), (mTx, .inl (cI, 60, .inl (fun i => nI (tx i)))), (mLe, .inl (cI, 217, .inl (fun i => nI (le i)))), (mSz, .inl (cI, 31, .inl (fun i => nI (sz i))))] := by
  refine CI.ofV rfl (by decide +kernel) rfl (Nat.le_of_ble_eq_true rfl) ?_
  intro κ x hret
  refine V_aload_n x 0 dX7_add_0 rfl rfl ?_
  refine V_aload_n x 0 dX7_add_1 rfl rfl ?_
  refine V_get x 0 7 5 hinX7 rfl rfl (by decide) flX7_65 rfl dX7_add_2 ?_
  refine V_bipush (v := nI 30) x dX7_add_5 (by decide +kernel) ?_
  refine V_icmp_neN x 14 dX7_add_7 rfl (fun t7 => ?_) (fun f7 => ?_)
  · skip
    refine V_iconst (v := nI 0) x dX7_add_14 (by decide +kernel) ?_
    refine V_put (ty := .int) x 0 7 0 [(hM, .inr (7, [.int (nI 0), .int (nI ty), .ref mTx, .int (nI wr), .ref mPg, .int (nI cn), .ref mLe, .ref mSz, .int (nI pf), .ref mLo, .ref mHi, .ref mDp, .int (nI mn), .ref mFu, .ref mFv, .ref mRw, .ref mBl, .ref mWy, .ref mFe])), (mTx, .inl (cI, 60, .inl (fun i => nI (tx i)))), (mLe, .inl (cI, 217, .inl (fun i => nI (le i)))), (mSz, .inl (cI, 31, .inl (fun i => nI (sz i))))] hinX7 tyX7 tyX7_ok nmX7 rfl rfl (by decide) flX7_50 rfl (by decide +kernel) rfl rfl (Nat.le_of_ble_eq_true rfl) rfl dX7_add_15 ?_
    refine V_aload_n x 0 dX7_add_18 rfl rfl ?_
    refine V_get x 0 7 0 hinX7 rfl rfl (by decide) flX7_50 rfl dX7_add_19 ?_
    refine V_if_leN x 27 dX7_add_22 rfl (fun t22 => ?_) (fun f22 => ?_)
    · skip
      refine V_aload_n x 0 dX7_add_27 rfl rfl ?_
      refine V_callVi x (m_take l D cI cZ cC cJ hM mTx mPg mLe mSz mLo mHi mDp mFu mFv mRw mBl mWy mFe 0 ty wr cn pf mn ) 0 (gdV mlX7_57 imX7_take seX7_take inX7 coX7_take) rfl hdX7_take ⟨Nat.le_of_ble_eq_true rfl, Nat.le_of_ble_eq_true rfl⟩ ⟨rfl, rfl⟩ 0 rfl rfl rfl [0] [(hM, .inr (7, [.int (nI 0), .int (nI 0), .ref mTx, .int (nI wr), .ref mPg, .int (nI cn), .ref mLe, .ref mSz, .int (nI pf), .ref mLo, .ref mHi, .ref mDp, .int (nI mn), .ref mFu, .ref mFv, .ref mRw, .ref mBl, .ref mWy, .ref mFe])), (mTx, .inl (cI, 60, .inl (fun i => nI (tx i)))), (mLe, .inl (cI, 217, .inl (fun i => nI (le i)))), (mSz, .inl (cI, 31, .inl (fun i => nI (sz i))))] rfl rfl [hM] rfl rfl [some 0] rfl rfl (rest := []) rfl (Nat.le_of_ble_eq_true rfl) dX7_add_28 ⟨Nat.zero_le _, Nat.zero_le _⟩ ?_
      refine V_istore_n x 1 [(1, .int (nI ty)), (0, .ref hM)] dX7_add_31 rfl (by decide) rfl ?_
      refine V_aload_n x 0 dX7_add_32 rfl rfl ?_
      refine V_iconst (v := nI 0) x dX7_add_33 (by decide +kernel) ?_
      refine V_iload_n x 1 dX7_add_34 rfl rfl ?_
      refine V_callVi x (m_isWord l D cI cZ cC cJ hM mTx mPg mLe mSz mLo mHi mDp mFu mFv mRw mBl mWy mFe 0 0 wr cn pf mn tx 0 ty (by first | omega | assumption) (by first | omega | assumption)) 2 (gdV mlX7_68 imX7_isWord seX7_isWord inX7 coX7_isWord) rfl hdX7_isWord ⟨Nat.le_of_ble_eq_true rfl, Nat.le_of_ble_eq_true rfl⟩ ⟨rfl, rfl⟩ 0 rfl rfl rfl [0, 1] [(hM, .inr (7, [.int (nI 0), .int (nI 0), .ref mTx, .int (nI wr), .ref mPg, .int (nI cn), .ref mLe, .ref mSz, .int (nI pf), .ref mLo, .ref mHi, .ref mDp, .int (nI mn), .ref mFu, .ref mFv, .ref mRw, .ref mBl, .ref mWy, .ref mFe])), (mTx, .inl (cI, 60, .inl (fun i => nI (tx i)))), (mLe, .inl (cI, 217, .inl (fun i => nI (le i)))), (mSz, .inl (cI, 31, .inl (fun i => nI (sz i))))] rfl rfl [hM, mTx] rfl rfl [some 0, some 1] rfl rfl (rest := []) rfl (Nat.le_of_ble_eq_true rfl) dX7_add_35 ⟨Nat.zero_le _, Nat.zero_le _⟩ ?_
      refine V_if_neB x 43 dX7_add_38 rfl (fun t38 => ?_) (fun f38 => ?_)
      · skip
        refine V_aload_n x 0 dX7_add_43 rfl rfl ?_
        refine V_iconst (v := nI 0) x dX7_add_44 (by decide +kernel) ?_
        refine V_iload_n x 1 dX7_add_45 rfl rfl ?_
        refine V_callVi x (m_numberOf l D cI cZ cC cJ hM mTx mPg mLe mSz mLo mHi mDp mFu mFv mRw mBl mWy mFe 0 0 wr cn pf mn tx le sz 0 ty (by first | omega | assumption) (by first | omega | assumption) (by first | omega | assumption) (by first | omega | assumption) (by first | omega | assumption)) 2 (gdV mlX7_76 imX7_numberOf seX7_numberOf inX7 coX7_numberOf) rfl hdX7_numberOf ⟨Nat.le_of_ble_eq_true rfl, Nat.le_of_ble_eq_true rfl⟩ ⟨rfl, rfl⟩ 0 rfl rfl rfl [0, 1, 2, 3] [(hM, .inr (7, [.int (nI 0), .int (nI 0), .ref mTx, .int (nI wr), .ref mPg, .int (nI cn), .ref mLe, .ref mSz, .int (nI pf), .ref mLo, .ref mHi, .ref mDp, .int (nI mn), .ref mFu, .ref mFv, .ref mRw, .ref mBl, .ref mWy, .ref mFe])), (mTx, .inl (cI, 60, .inl (fun i => nI (tx i)))), (mLe, .inl (cI, 217, .inl (fun i => nI (le i)))), (mSz, .inl (cI, 31, .inl (fun i => nI (sz i))))] rfl rfl [hM, mTx, mLe, mSz] rfl rfl [some 0, some 1, some 2, some 3] rfl rfl (rest := []) rfl (Nat.le_of_ble_eq_true rfl) dX7_add_46 ⟨Nat.zero_le _, Nat.zero_le _⟩ ?_
        refine V_if_ltO x 54 dX7_add_49 rfl (fun z hz => by have := mnb_lt hz; omega) (fun t49 => ?_) (fun z49 f49 => ?_)
        · skip
          rw [hh] at t49; cases t49
        · skip
          refine V_iconst (v := nI 0) x dX7_add_52 (by decide +kernel) ?_
          exact hret _ _ dX7_add_53
      · skip
        rw [hw] at f38; cases f38
    · skip
      omega
  · skip
    omega
set_option maxHeartbeats 4000000 in
set_option maxRecDepth 100000 in
theorem m_add_new (l : Launch) (D : va_G) (cI cZ cC cJ : ClassId) (hM mTx mPg mLe mSz mLo mHi mDp mFu mFv mRw mBl mWy mFe : Nat) (ft : Nat) (ty : Nat) (wr : Nat) (cn : Nat) (pf : Nat) (mn : Nat) (tx : Nat → Nat) (le : Nat → Nat) (sz : Nat → Nat) (hty : ty ≤ 60) (h30 : cn < 30) (htx : ∀ i, tx i < 65536) (hle : ∀ i, le i ≤ 8) (hsz : ∀ i, sz i ≤ 7) (hw : miw tx 0 ty ty = true) (hw7 : ty ≤ 7) (hh : mnb tx le sz cn 0 ty = none) : CI l yX7_add wsX7_add { frames := 3, cells := 0, slots := 0, locals := 70 } D vwCl (tys4 cI cZ cC cJ) [.ref hM] [(hM, .inr (7, [.int (nI ft), .int (nI ty), .ref mTx, .int (nI wr), .ref mPg, .int (nI cn), .ref mLe, .ref mSz, .int (nI pf), .ref mLo, .ref mHi, .ref mDp, .int (nI mn), .ref mFu, .ref mFv, .ref mRw, .ref mBl, .ref mWy, .ref mFe])), (mTx, .inl (cI, 60, .inl (fun i => nI (tx i)))), (mLe, .inl (cI, 217, .inl (fun i => nI (le i)))), (mSz, .inl (cI, 31, .inl (fun i => nI (sz i))))] ((nI 1)) [(hM, .inr (7, [.int (nI 0), .int (nI 0), .ref mTx, .int (nI wr), .ref mPg, .int (nI (cn + 1)), .ref mLe, .ref mSz, .int (nI pf), .ref mLo, .ref mHi, .ref mDp, .int (nI 0), .ref mFu, .ref mFv, .ref mRw, .ref mBl, .ref mWy, .ref mFe])), (mTx, .inl (cI, 60, .inl (fun i => nI (tx i)))), (mLe, .inl (cI, 217, .inl (fun i => nI ((mfl (mis tx ty cn le sz).2.1 (mis tx ty cn le sz).1 tx ty) i)))), (mSz, .inl (cI, 31, .inl (fun i => nI ((va_up (mis tx ty cn le sz).2.2 (mis tx ty cn le sz).1 ty) i))))] := by
  refine CI.ofV rfl (by decide +kernel) rfl (Nat.le_of_ble_eq_true rfl) ?_
  intro κ x hret
  refine V_aload_n x 0 dX7_add_0 rfl rfl ?_
  refine V_aload_n x 0 dX7_add_1 rfl rfl ?_
  refine V_get x 0 7 5 hinX7 rfl rfl (by decide) flX7_65 rfl dX7_add_2 ?_
  refine V_bipush (v := nI 30) x dX7_add_5 (by decide +kernel) ?_
  refine V_icmp_neN x 14 dX7_add_7 rfl (fun t7 => ?_) (fun f7 => ?_)
  · skip
    refine V_iconst (v := nI 0) x dX7_add_14 (by decide +kernel) ?_
    refine V_put (ty := .int) x 0 7 0 [(hM, .inr (7, [.int (nI 0), .int (nI ty), .ref mTx, .int (nI wr), .ref mPg, .int (nI cn), .ref mLe, .ref mSz, .int (nI pf), .ref mLo, .ref mHi, .ref mDp, .int (nI mn), .ref mFu, .ref mFv, .ref mRw, .ref mBl, .ref mWy, .ref mFe])), (mTx, .inl (cI, 60, .inl (fun i => nI (tx i)))), (mLe, .inl (cI, 217, .inl (fun i => nI (le i)))), (mSz, .inl (cI, 31, .inl (fun i => nI (sz i))))] hinX7 tyX7 tyX7_ok nmX7 rfl rfl (by decide) flX7_50 rfl (by decide +kernel) rfl rfl (Nat.le_of_ble_eq_true rfl) rfl dX7_add_15 ?_
    refine V_aload_n x 0 dX7_add_18 rfl rfl ?_
    refine V_get x 0 7 0 hinX7 rfl rfl (by decide) flX7_50 rfl dX7_add_19 ?_
    refine V_if_leN x 27 dX7_add_22 rfl (fun t22 => ?_) (fun f22 => ?_)
    · skip
      refine V_aload_n x 0 dX7_add_27 rfl rfl ?_
      refine V_callVi x (m_take l D cI cZ cC cJ hM mTx mPg mLe mSz mLo mHi mDp mFu mFv mRw mBl mWy mFe 0 ty wr cn pf mn ) 0 (gdV mlX7_57 imX7_take seX7_take inX7 coX7_take) rfl hdX7_take ⟨Nat.le_of_ble_eq_true rfl, Nat.le_of_ble_eq_true rfl⟩ ⟨rfl, rfl⟩ 0 rfl rfl rfl [0] [(hM, .inr (7, [.int (nI 0), .int (nI 0), .ref mTx, .int (nI wr), .ref mPg, .int (nI cn), .ref mLe, .ref mSz, .int (nI pf), .ref mLo, .ref mHi, .ref mDp, .int (nI mn), .ref mFu, .ref mFv, .ref mRw, .ref mBl, .ref mWy, .ref mFe])), (mTx, .inl (cI, 60, .inl (fun i => nI (tx i)))), (mLe, .inl (cI, 217, .inl (fun i => nI (le i)))), (mSz, .inl (cI, 31, .inl (fun i => nI (sz i))))] rfl rfl [hM] rfl rfl [some 0] rfl rfl (rest := []) rfl (Nat.le_of_ble_eq_true rfl) dX7_add_28 ⟨Nat.zero_le _, Nat.zero_le _⟩ ?_
      refine V_istore_n x 1 [(1, .int (nI ty)), (0, .ref hM)] dX7_add_31 rfl (by decide) rfl ?_
      refine V_aload_n x 0 dX7_add_32 rfl rfl ?_
      refine V_iconst (v := nI 0) x dX7_add_33 (by decide +kernel) ?_
      refine V_iload_n x 1 dX7_add_34 rfl rfl ?_
      refine V_callVi x (m_isWord l D cI cZ cC cJ hM mTx mPg mLe mSz mLo mHi mDp mFu mFv mRw mBl mWy mFe 0 0 wr cn pf mn tx 0 ty (by first | omega | assumption) (by first | omega | assumption)) 2 (gdV mlX7_68 imX7_isWord seX7_isWord inX7 coX7_isWord) rfl hdX7_isWord ⟨Nat.le_of_ble_eq_true rfl, Nat.le_of_ble_eq_true rfl⟩ ⟨rfl, rfl⟩ 0 rfl rfl rfl [0, 1] [(hM, .inr (7, [.int (nI 0), .int (nI 0), .ref mTx, .int (nI wr), .ref mPg, .int (nI cn), .ref mLe, .ref mSz, .int (nI pf), .ref mLo, .ref mHi, .ref mDp, .int (nI mn), .ref mFu, .ref mFv, .ref mRw, .ref mBl, .ref mWy, .ref mFe])), (mTx, .inl (cI, 60, .inl (fun i => nI (tx i)))), (mLe, .inl (cI, 217, .inl (fun i => nI (le i)))), (mSz, .inl (cI, 31, .inl (fun i => nI (sz i))))] rfl rfl [hM, mTx] rfl rfl [some 0, some 1] rfl rfl (rest := []) rfl (Nat.le_of_ble_eq_true rfl) dX7_add_35 ⟨Nat.zero_le _, Nat.zero_le _⟩ ?_
      refine V_if_neB x 43 dX7_add_38 rfl (fun t38 => ?_) (fun f38 => ?_)
      · skip
        refine V_aload_n x 0 dX7_add_43 rfl rfl ?_
        refine V_iconst (v := nI 0) x dX7_add_44 (by decide +kernel) ?_
        refine V_iload_n x 1 dX7_add_45 rfl rfl ?_
        refine V_callVi x (m_numberOf l D cI cZ cC cJ hM mTx mPg mLe mSz mLo mHi mDp mFu mFv mRw mBl mWy mFe 0 0 wr cn pf mn tx le sz 0 ty (by first | omega | assumption) (by first | omega | assumption) (by first | omega | assumption) (by first | omega | assumption) (by first | omega | assumption)) 2 (gdV mlX7_76 imX7_numberOf seX7_numberOf inX7 coX7_numberOf) rfl hdX7_numberOf ⟨Nat.le_of_ble_eq_true rfl, Nat.le_of_ble_eq_true rfl⟩ ⟨rfl, rfl⟩ 0 rfl rfl rfl [0, 1, 2, 3] [(hM, .inr (7, [.int (nI 0), .int (nI 0), .ref mTx, .int (nI wr), .ref mPg, .int (nI cn), .ref mLe, .ref mSz, .int (nI pf), .ref mLo, .ref mHi, .ref mDp, .int (nI mn), .ref mFu, .ref mFv, .ref mRw, .ref mBl, .ref mWy, .ref mFe])), (mTx, .inl (cI, 60, .inl (fun i => nI (tx i)))), (mLe, .inl (cI, 217, .inl (fun i => nI (le i)))), (mSz, .inl (cI, 31, .inl (fun i => nI (sz i))))] rfl rfl [hM, mTx, mLe, mSz] rfl rfl [some 0, some 1, some 2, some 3] rfl rfl (rest := []) rfl (Nat.le_of_ble_eq_true rfl) dX7_add_46 ⟨Nat.zero_le _, Nat.zero_le _⟩ ?_
        refine V_if_ltO x 54 dX7_add_49 rfl (fun z hz => by have := mnb_lt hz; omega) (fun t49 => ?_) (fun z49 f49 => ?_)
        · skip
          refine V_aload_n x 0 dX7_add_54 rfl rfl ?_
          refine V_get x 0 7 5 hinX7 rfl rfl (by decide) flX7_65 rfl dX7_add_55 ?_
          refine V_istore_n x 2 [(2, .int (nI cn)), (1, .int (nI ty)), (0, .ref hM)] dX7_add_58 rfl (by decide) rfl ?_
          have L59 : ∀ (k59 : Nat) (a : Nat) (le1 : Nat → Nat) (sz1 : Nat → Nat) (ha : a ≤ cn) (hl1 : ∀ i, le1 i ≤ 8) (hs1 : ∀ i, sz1 i ≤ 7) (e1 : mis tx ty a le1 sz1 = mis tx ty cn le sz) (hk59 : a = k59), V κ 0 0 [(hM, .inr (7, [.int (nI 0), .int (nI 0), .ref mTx, .int (nI wr), .ref mPg, .int (nI cn), .ref mLe, .ref mSz, .int (nI pf), .ref mLo, .ref mHi, .ref mDp, .int (nI mn), .ref mFu, .ref mFv, .ref mRw, .ref mBl, .ref mWy, .ref mFe])), (mTx, .inl (cI, 60, .inl (fun i => nI (tx i)))), (mLe, .inl (cI, 217, .inl (fun i => nI (le1 i)))), (mSz, .inl (cI, 31, .inl (fun i => nI (sz1 i))))] 59 [(0, .ref hM), (1, .int (nI ty)), (2, .int (nI a))] [] := by
            intro k59
            induction k59 using Nat.strongRecOn with
            | ind k59 ih59 =>
              intro a le1 sz1 ha hl1 hs1 e1 hk59
              refine V_iload_n x 2 dX7_add_59 rfl rfl ?_
              refine V_if_leN x 89 dX7_add_60 rfl (fun t60 => ?_) (fun f60 => ?_)
              · skip
                have e9 : mis tx ty cn le sz = (a, le1, sz1) := by
                  rw [← e1]
                  first
                  | exact mis_end (Or.inl t60)
                  | exact mis_end (Or.inr t72)
                rw [e9] at hret
                refine V_aload_n x 0 dX7_add_89 rfl rfl ?_
                refine V_get x 0 7 7 hinX7 rfl rfl (by decide) flX7_19 rfl dX7_add_90 ?_
                refine V_iload_n x 2 dX7_add_93 rfl rfl ?_
                refine V_iload_n x 1 dX7_add_94 rfl rfl ?_
                refine V_iast x 3 0 nI sz1 ty [(hM, .inr (7, [.int (nI 0), .int (nI 0), .ref mTx, .int (nI wr), .ref mPg, .int (nI cn), .ref mLe, .ref mSz, .int (nI pf), .ref mLo, .ref mHi, .ref mDp, .int (nI mn), .ref mFu, .ref mFv, .ref mRw, .ref mBl, .ref mWy, .ref mFe])), (mTx, .inl (cI, 60, .inl (fun i => nI (tx i)))), (mLe, .inl (cI, 217, .inl (fun i => nI (le1 i)))), (mSz, .inl (cI, 31, .inl (fun i => nI ((va_up sz1 a ty) i))))] rfl rfl dX7_add_95 (by omega) (by omega) rfl ?_
                refine V_iconst (v := nI 0) x dX7_add_96 (by decide +kernel) ?_
                refine V_istore_n x 3 [(3, .int (nI 0)), (0, .ref hM), (1, .int (nI ty)), (2, .int (nI a))] dX7_add_97 rfl (by decide) rfl ?_
                have L98 : ∀ (k98 : Nat) (k : Nat) (le2 : Nat → Nat) (hk : k ≤ ty) (e2 : mfl le1 a tx k = le2) (hk98 : ty - k = k98), V κ 0 0 [(hM, .inr (7, [.int (nI 0), .int (nI 0), .ref mTx, .int (nI wr), .ref mPg, .int (nI cn), .ref mLe, .ref mSz, .int (nI pf), .ref mLo, .ref mHi, .ref mDp, .int (nI mn), .ref mFu, .ref mFv, .ref mRw, .ref mBl, .ref mWy, .ref mFe])), (mTx, .inl (cI, 60, .inl (fun i => nI (tx i)))), (mLe, .inl (cI, 217, .inl (fun i => nI (le2 i)))), (mSz, .inl (cI, 31, .inl (fun i => nI ((va_up sz1 a ty) i))))] 98 [(0, .ref hM), (1, .int (nI ty)), (2, .int (nI a)), (3, .int (nI k))] [] := by
                  intro k98
                  induction k98 using Nat.strongRecOn with
                  | ind k98 ih98 =>
                    intro k le2 hk e2 hk98
                    refine V_iload_n x 3 dX7_add_98 rfl rfl ?_
                    refine V_iload_n x 1 dX7_add_99 rfl rfl ?_
                    refine V_icmp_geN x 125 dX7_add_100 rfl (fun t100 => ?_) (fun f100 => ?_)
                    · skip
                      refine V_aload_n x 0 dX7_add_125 rfl rfl ?_
                      refine V_dup x dX7_add_126 rfl ?_
                      refine V_get x 0 7 5 hinX7 rfl rfl (by decide) flX7_65 rfl dX7_add_127 ?_
                      refine V_iconst (v := nI 1) x dX7_add_130 (by decide +kernel) ?_
                      refine V_iadd x (nI (cn + 1)) dX7_add_131 (nI_add _ _) ?_
                      refine V_put (ty := .int) x 0 7 5 [(hM, .inr (7, [.int (nI 0), .int (nI 0), .ref mTx, .int (nI wr), .ref mPg, .int (nI (cn + 1)), .ref mLe, .ref mSz, .int (nI pf), .ref mLo, .ref mHi, .ref mDp, .int (nI mn), .ref mFu, .ref mFv, .ref mRw, .ref mBl, .ref mWy, .ref mFe])), (mTx, .inl (cI, 60, .inl (fun i => nI (tx i)))), (mLe, .inl (cI, 217, .inl (fun i => nI (le2 i)))), (mSz, .inl (cI, 31, .inl (fun i => nI ((va_up sz1 a ty) i))))] hinX7 tyX7 tyX7_ok nmX7 rfl rfl (by decide) flX7_65 rfl (by decide +kernel) rfl rfl (Nat.le_of_ble_eq_true rfl) rfl dX7_add_132 ?_
                      refine V_aload_n x 0 dX7_add_135 rfl rfl ?_
                      refine V_iconst (v := nI 0) x dX7_add_136 (by decide +kernel) ?_
                      refine V_put (ty := .int) x 0 7 12 [(hM, .inr (7, [.int (nI 0), .int (nI 0), .ref mTx, .int (nI wr), .ref mPg, .int (nI (cn + 1)), .ref mLe, .ref mSz, .int (nI pf), .ref mLo, .ref mHi, .ref mDp, .int (nI 0), .ref mFu, .ref mFv, .ref mRw, .ref mBl, .ref mWy, .ref mFe])), (mTx, .inl (cI, 60, .inl (fun i => nI (tx i)))), (mLe, .inl (cI, 217, .inl (fun i => nI (le2 i)))), (mSz, .inl (cI, 31, .inl (fun i => nI ((va_up sz1 a ty) i))))] hinX7 tyX7 tyX7_ok nmX7 rfl rfl (by decide) flX7_84 rfl (by decide +kernel) rfl rfl (Nat.le_of_ble_eq_true rfl) rfl dX7_add_137 ?_
                      refine V_iconst (v := nI 1) x dX7_add_140 (by decide +kernel) ?_
                      obtain rfl : k = ty := by omega
                      rw [e2] at hret
                      exact hret _ _ dX7_add_141
                    · skip
                      refine V_aload_n x 0 dX7_add_103 rfl rfl ?_
                      refine V_get x 0 7 6 hinX7 rfl rfl (by decide) flX7_16 rfl dX7_add_104 ?_
                      refine V_bipush (v := nI 7) x dX7_add_107 (by decide +kernel) ?_
                      refine V_iload_n x 2 dX7_add_109 rfl rfl ?_
                      refine V_imul x (nI (7 * a)) dX7_add_110 (pk_mul _ _) ?_
                      refine V_iload_n x 3 dX7_add_111 rfl rfl ?_
                      refine V_iadd x (nI ((7 * a) + k)) dX7_add_112 (nI_add _ _) ?_
                      refine V_aload_n x 0 dX7_add_113 rfl rfl ?_
                      refine V_iload_n x 3 dX7_add_114 rfl rfl ?_
                      refine V_callVi x (m_letter l D cI cZ cC cJ hM mTx mPg mLe mSz mLo mHi mDp mFu mFv mRw mBl mWy mFe 0 0 wr cn pf mn tx k (by first | omega | assumption) (by first | omega | assumption)) 1 (gdV mlX7_61 imX7_letter seX7_letter inX7 coX7_letter) rfl hdX7_letter ⟨Nat.le_of_ble_eq_true rfl, Nat.le_of_ble_eq_true rfl⟩ ⟨rfl, rfl⟩ 0 rfl rfl rfl [0, 1] [(hM, .inr (7, [.int (nI 0), .int (nI 0), .ref mTx, .int (nI wr), .ref mPg, .int (nI cn), .ref mLe, .ref mSz, .int (nI pf), .ref mLo, .ref mHi, .ref mDp, .int (nI mn), .ref mFu, .ref mFv, .ref mRw, .ref mBl, .ref mWy, .ref mFe])), (mTx, .inl (cI, 60, .inl (fun i => nI (tx i)))), (mLe, .inl (cI, 217, .inl (fun i => nI (le2 i)))), (mSz, .inl (cI, 31, .inl (fun i => nI ((va_up sz1 a ty) i))))] rfl rfl [hM, mTx] rfl rfl [some 0, some 1] rfl rfl (rest := [.int (nI ((7 * a) + k)), .ref mLe]) rfl (Nat.le_of_ble_eq_true rfl) dX7_add_115 ⟨Nat.zero_le _, Nat.zero_le _⟩ ?_
                      refine V_iast x 2 0 nI le2 (mlt (tx k)) [(hM, .inr (7, [.int (nI 0), .int (nI 0), .ref mTx, .int (nI wr), .ref mPg, .int (nI cn), .ref mLe, .ref mSz, .int (nI pf), .ref mLo, .ref mHi, .ref mDp, .int (nI mn), .ref mFu, .ref mFv, .ref mRw, .ref mBl, .ref mWy, .ref mFe])), (mTx, .inl (cI, 60, .inl (fun i => nI (tx i)))), (mLe, .inl (cI, 217, .inl (fun i => nI ((va_up le2 ((7 * a) + k) (mlt (tx k))) i)))), (mSz, .inl (cI, 31, .inl (fun i => nI ((va_up sz1 a ty) i))))] rfl rfl dX7_add_118 (by omega) (by omega) rfl ?_
                      refine V_iinc x 3 3 [(3, .int (nI (k + 1))), (0, .ref hM), (1, .int (nI ty)), (2, .int (nI a))] dX7_add_119 rfl (iinc_1 _) (by decide) rfl ?_
                      refine V_goto x 98 dX7_add_122 rfl ?_
                      refine V.sub [1, 2, 3, 0] (lv' := [(0, .ref hM), (1, .int (nI ty)), (2, .int (nI a)), (3, .int (nI ((k + 1))))]) rfl ?_
                      exact ih98 (ty - (k + 1)) (by omega) (k + 1) (va_up le2 ((7 * a) + k) (mlt (tx k))) (by omega) (by rw [mfl, e2]) rfl
                refine V.sub [1, 2, 3, 0] (lv' := [(0, .ref hM), (1, .int (nI ty)), (2, .int (nI a)), (3, .int (nI 0))]) rfl ?_
                exact L98 _ 0 le1 (by omega) rfl rfl
              · skip
                refine V_aload_n x 0 dX7_add_63 rfl rfl ?_
                refine V_iconst (v := nI 0) x dX7_add_64 (by decide +kernel) ?_
                refine V_iload_n x 1 dX7_add_65 rfl rfl ?_
                refine V_iload_n x 2 dX7_add_66 rfl rfl ?_
                refine V_iconst (v := nI 1) x dX7_add_67 (by decide +kernel) ?_
                refine V_isub x (nI (a - 1)) dX7_add_68 (pk_sub (by omega)) ?_
                refine V_callVi x (m_compare l D cI cZ cC cJ hM mTx mPg mLe mSz mLo mHi mDp mFu mFv mRw mBl mWy mFe 0 0 wr cn pf mn tx le1 sz1 0 ty (a - 1) (by first | omega | assumption) (by first | omega | assumption) (by first | omega | assumption) hl1 hs1) 3 (gdV mlX7_72 imX7_compare seX7_compare inX7 coX7_compare) rfl hdX7_compare ⟨Nat.le_of_ble_eq_true rfl, Nat.le_of_ble_eq_true rfl⟩ ⟨rfl, rfl⟩ 0 rfl rfl rfl [0, 1, 2, 3] [(hM, .inr (7, [.int (nI 0), .int (nI 0), .ref mTx, .int (nI wr), .ref mPg, .int (nI cn), .ref mLe, .ref mSz, .int (nI pf), .ref mLo, .ref mHi, .ref mDp, .int (nI mn), .ref mFu, .ref mFv, .ref mRw, .ref mBl, .ref mWy, .ref mFe])), (mTx, .inl (cI, 60, .inl (fun i => nI (tx i)))), (mLe, .inl (cI, 217, .inl (fun i => nI (le1 i)))), (mSz, .inl (cI, 31, .inl (fun i => nI (sz1 i))))] rfl rfl [hM, mTx, mLe, mSz] rfl rfl [some 0, some 1, some 2, some 3] rfl rfl (rest := []) rfl (Nat.le_of_ble_eq_true rfl) dX7_add_69 ⟨Nat.zero_le _, Nat.zero_le _⟩ ?_
                refine V_if_geI x 89 dX7_add_72 rfl (mcm_le (by omega) (hs1 _) hl1 8 0) (fun t72 => ?_) (fun f72 => ?_)
                · skip
                  have e9 : mis tx ty cn le sz = (a, le1, sz1) := by
                    rw [← e1]
                    first
                    | exact mis_end (Or.inl t60)
                    | exact mis_end (Or.inr t72)
                  rw [e9] at hret
                  refine V_aload_n x 0 dX7_add_89 rfl rfl ?_
                  refine V_get x 0 7 7 hinX7 rfl rfl (by decide) flX7_19 rfl dX7_add_90 ?_
                  refine V_iload_n x 2 dX7_add_93 rfl rfl ?_
                  refine V_iload_n x 1 dX7_add_94 rfl rfl ?_
                  refine V_iast x 3 0 nI sz1 ty [(hM, .inr (7, [.int (nI 0), .int (nI 0), .ref mTx, .int (nI wr), .ref mPg, .int (nI cn), .ref mLe, .ref mSz, .int (nI pf), .ref mLo, .ref mHi, .ref mDp, .int (nI mn), .ref mFu, .ref mFv, .ref mRw, .ref mBl, .ref mWy, .ref mFe])), (mTx, .inl (cI, 60, .inl (fun i => nI (tx i)))), (mLe, .inl (cI, 217, .inl (fun i => nI (le1 i)))), (mSz, .inl (cI, 31, .inl (fun i => nI ((va_up sz1 a ty) i))))] rfl rfl dX7_add_95 (by omega) (by omega) rfl ?_
                  refine V_iconst (v := nI 0) x dX7_add_96 (by decide +kernel) ?_
                  refine V_istore_n x 3 [(3, .int (nI 0)), (0, .ref hM), (1, .int (nI ty)), (2, .int (nI a))] dX7_add_97 rfl (by decide) rfl ?_
                  have L98 : ∀ (k98 : Nat) (k : Nat) (le2 : Nat → Nat) (hk : k ≤ ty) (e2 : mfl le1 a tx k = le2) (hk98 : ty - k = k98), V κ 0 0 [(hM, .inr (7, [.int (nI 0), .int (nI 0), .ref mTx, .int (nI wr), .ref mPg, .int (nI cn), .ref mLe, .ref mSz, .int (nI pf), .ref mLo, .ref mHi, .ref mDp, .int (nI mn), .ref mFu, .ref mFv, .ref mRw, .ref mBl, .ref mWy, .ref mFe])), (mTx, .inl (cI, 60, .inl (fun i => nI (tx i)))), (mLe, .inl (cI, 217, .inl (fun i => nI (le2 i)))), (mSz, .inl (cI, 31, .inl (fun i => nI ((va_up sz1 a ty) i))))] 98 [(0, .ref hM), (1, .int (nI ty)), (2, .int (nI a)), (3, .int (nI k))] [] := by
                    intro k98
                    induction k98 using Nat.strongRecOn with
                    | ind k98 ih98 =>
                      intro k le2 hk e2 hk98
                      refine V_iload_n x 3 dX7_add_98 rfl rfl ?_
                      refine V_iload_n x 1 dX7_add_99 rfl rfl ?_
                      refine V_icmp_geN x 125 dX7_add_100 rfl (fun t100 => ?_) (fun f100 => ?_)
                      · skip
                        refine V_aload_n x 0 dX7_add_125 rfl rfl ?_
                        refine V_dup x dX7_add_126 rfl ?_
                        refine V_get x 0 7 5 hinX7 rfl rfl (by decide) flX7_65 rfl dX7_add_127 ?_
                        refine V_iconst (v := nI 1) x dX7_add_130 (by decide +kernel) ?_
                        refine V_iadd x (nI (cn + 1)) dX7_add_131 (nI_add _ _) ?_
                        refine V_put (ty := .int) x 0 7 5 [(hM, .inr (7, [.int (nI 0), .int (nI 0), .ref mTx, .int (nI wr), .ref mPg, .int (nI (cn + 1)), .ref mLe, .ref mSz, .int (nI pf), .ref mLo, .ref mHi, .ref mDp, .int (nI mn), .ref mFu, .ref mFv, .ref mRw, .ref mBl, .ref mWy, .ref mFe])), (mTx, .inl (cI, 60, .inl (fun i => nI (tx i)))), (mLe, .inl (cI, 217, .inl (fun i => nI (le2 i)))), (mSz, .inl (cI, 31, .inl (fun i => nI ((va_up sz1 a ty) i))))] hinX7 tyX7 tyX7_ok nmX7 rfl rfl (by decide) flX7_65 rfl (by decide +kernel) rfl rfl (Nat.le_of_ble_eq_true rfl) rfl dX7_add_132 ?_
                        refine V_aload_n x 0 dX7_add_135 rfl rfl ?_
                        refine V_iconst (v := nI 0) x dX7_add_136 (by decide +kernel) ?_
                        refine V_put (ty := .int) x 0 7 12 [(hM, .inr (7, [.int (nI 0), .int (nI 0), .ref mTx, .int (nI wr), .ref mPg, .int (nI (cn + 1)), .ref mLe, .ref mSz, .int (nI pf), .ref mLo, .ref mHi, .ref mDp, .int (nI 0), .ref mFu, .ref mFv, .ref mRw, .ref mBl, .ref mWy, .ref mFe])), (mTx, .inl (cI, 60, .inl (fun i => nI (tx i)))), (mLe, .inl (cI, 217, .inl (fun i => nI (le2 i)))), (mSz, .inl (cI, 31, .inl (fun i => nI ((va_up sz1 a ty) i))))] hinX7 tyX7 tyX7_ok nmX7 rfl rfl (by decide) flX7_84 rfl (by decide +kernel) rfl rfl (Nat.le_of_ble_eq_true rfl) rfl dX7_add_137 ?_
                        refine V_iconst (v := nI 1) x dX7_add_140 (by decide +kernel) ?_
                        obtain rfl : k = ty := by omega
                        rw [e2] at hret
                        exact hret _ _ dX7_add_141
                      · skip
                        refine V_aload_n x 0 dX7_add_103 rfl rfl ?_
                        refine V_get x 0 7 6 hinX7 rfl rfl (by decide) flX7_16 rfl dX7_add_104 ?_
                        refine V_bipush (v := nI 7) x dX7_add_107 (by decide +kernel) ?_
                        refine V_iload_n x 2 dX7_add_109 rfl rfl ?_
                        refine V_imul x (nI (7 * a)) dX7_add_110 (pk_mul _ _) ?_
                        refine V_iload_n x 3 dX7_add_111 rfl rfl ?_
                        refine V_iadd x (nI ((7 * a) + k)) dX7_add_112 (nI_add _ _) ?_
                        refine V_aload_n x 0 dX7_add_113 rfl rfl ?_
                        refine V_iload_n x 3 dX7_add_114 rfl rfl ?_
                        refine V_callVi x (m_letter l D cI cZ cC cJ hM mTx mPg mLe mSz mLo mHi mDp mFu mFv mRw mBl mWy mFe 0 0 wr cn pf mn tx k (by first | omega | assumption) (by first | omega | assumption)) 1 (gdV mlX7_61 imX7_letter seX7_letter inX7 coX7_letter) rfl hdX7_letter ⟨Nat.le_of_ble_eq_true rfl, Nat.le_of_ble_eq_true rfl⟩ ⟨rfl, rfl⟩ 0 rfl rfl rfl [0, 1] [(hM, .inr (7, [.int (nI 0), .int (nI 0), .ref mTx, .int (nI wr), .ref mPg, .int (nI cn), .ref mLe, .ref mSz, .int (nI pf), .ref mLo, .ref mHi, .ref mDp, .int (nI mn), .ref mFu, .ref mFv, .ref mRw, .ref mBl, .ref mWy, .ref mFe])), (mTx, .inl (cI, 60, .inl (fun i => nI (tx i)))), (mLe, .inl (cI, 217, .inl (fun i => nI (le2 i)))), (mSz, .inl (cI, 31, .inl (fun i => nI ((va_up sz1 a ty) i))))] rfl rfl [hM, mTx] rfl rfl [some 0, some 1] rfl rfl (rest := [.int (nI ((7 * a) + k)), .ref mLe]) rfl (Nat.le_of_ble_eq_true rfl) dX7_add_115 ⟨Nat.zero_le _, Nat.zero_le _⟩ ?_
                        refine V_iast x 2 0 nI le2 (mlt (tx k)) [(hM, .inr (7, [.int (nI 0), .int (nI 0), .ref mTx, .int (nI wr), .ref mPg, .int (nI cn), .ref mLe, .ref mSz, .int (nI pf), .ref mLo, .ref mHi, .ref mDp, .int (nI mn), .ref mFu, .ref mFv, .ref mRw, .ref mBl, .ref mWy, .ref mFe])), (mTx, .inl (cI, 60, .inl (fun i => nI (tx i)))), (mLe, .inl (cI, 217, .inl (fun i => nI ((va_up le2 ((7 * a) + k) (mlt (tx k))) i)))), (mSz, .inl (cI, 31, .inl (fun i => nI ((va_up sz1 a ty) i))))] rfl rfl dX7_add_118 (by omega) (by omega) rfl ?_
                        refine V_iinc x 3 3 [(3, .int (nI (k + 1))), (0, .ref hM), (1, .int (nI ty)), (2, .int (nI a))] dX7_add_119 rfl (iinc_1 _) (by decide) rfl ?_
                        refine V_goto x 98 dX7_add_122 rfl ?_
                        refine V.sub [1, 2, 3, 0] (lv' := [(0, .ref hM), (1, .int (nI ty)), (2, .int (nI a)), (3, .int (nI ((k + 1))))]) rfl ?_
                        exact ih98 (ty - (k + 1)) (by omega) (k + 1) (va_up le2 ((7 * a) + k) (mlt (tx k))) (by omega) (by rw [mfl, e2]) rfl
                  refine V.sub [1, 2, 3, 0] (lv' := [(0, .ref hM), (1, .int (nI ty)), (2, .int (nI a)), (3, .int (nI 0))]) rfl ?_
                  exact L98 _ 0 le1 (by omega) rfl rfl
                · skip
                  refine V_aload_n x 0 dX7_add_75 rfl rfl ?_
                  refine V_iload_n x 2 dX7_add_76 rfl rfl ?_
                  refine V_iload_n x 2 dX7_add_77 rfl rfl ?_
                  refine V_iconst (v := nI 1) x dX7_add_78 (by decide +kernel) ?_
                  refine V_isub x (nI (a - 1)) dX7_add_79 (pk_sub (by omega)) ?_
                  refine V_callVv x (m_move l D cI cZ cC cJ hM mTx mPg mLe mSz mLo mHi mDp mFu mFv mRw mBl mWy mFe 0 0 wr cn pf mn le1 sz1 a (a - 1) (by first | omega | assumption) (by first | omega | assumption)) 2 (gdV mlX7_80 imX7_move seX7_move inX7 coX7_move) rfl hdX7_move ⟨Nat.le_of_ble_eq_true rfl, Nat.le_of_ble_eq_true rfl⟩ ⟨rfl, rfl⟩ 0 rfl rfl rfl [0, 2, 3] [(hM, .inr (7, [.int (nI 0), .int (nI 0), .ref mTx, .int (nI wr), .ref mPg, .int (nI cn), .ref mLe, .ref mSz, .int (nI pf), .ref mLo, .ref mHi, .ref mDp, .int (nI mn), .ref mFu, .ref mFv, .ref mRw, .ref mBl, .ref mWy, .ref mFe])), (mTx, .inl (cI, 60, .inl (fun i => nI (tx i)))), (mLe, .inl (cI, 217, .inl (fun i => nI ((mvl le1 a (a - 1) 7) i)))), (mSz, .inl (cI, 31, .inl (fun i => nI ((va_up sz1 a (sz1 (a - 1))) i))))] rfl rfl [hM, mLe, mSz] rfl rfl [some 0, none, some 1, some 2] rfl rfl (rest := []) rfl (Nat.le_of_ble_eq_true rfl) dX7_add_80 ⟨Nat.zero_le _, Nat.zero_le _⟩ ?_
                  refine V_iinc x 2 2 [(2, .int (nI (a - 1))), (0, .ref hM), (1, .int (nI ty))] dX7_add_83 rfl (iinc_m1 (by omega)) (by decide) rfl ?_
                  refine V_goto x 59 dX7_add_86 rfl ?_
                  refine V.sub [1, 2, 0] (lv' := [(0, .ref hM), (1, .int (nI ty)), (2, .int (nI ((a - 1))))]) rfl ?_
                  exact ih59 ((a - 1)) (by omega) (a - 1) (mvl le1 a (a - 1) 7) (va_up sz1 a (sz1 (a - 1))) (by omega) (mvl_le hl1 7) (up_le hs1 (Nat.le_refl _) (hs1 _)) (by rw [← e1, mis_next f60 f72]) rfl
          refine V.sub [2, 1, 0] (lv' := [(0, .ref hM), (1, .int (nI ty)), (2, .int (nI cn))]) rfl ?_
          exact L59 _ cn le sz (by omega) hle hsz rfl rfl
        · skip
          rw [hh] at f49; cases f49
      · skip
        rw [hw] at f38; cases f38
    · skip
      omega
  · skip
    omega
set_option maxHeartbeats 4000000 in
set_option maxRecDepth 100000 in
theorem m_remove_no (l : Launch) (D : va_G) (cI cZ cC cJ : ClassId) (hM mTx mPg mLe mSz mLo mHi mDp mFu mFv mRw mBl mWy mFe : Nat) (ft : Nat) (ty : Nat) (wr : Nat) (cn : Nat) (pf : Nat) (mn : Nat) (tx : Nat → Nat) (le : Nat → Nat) (sz : Nat → Nat) (hty : ty ≤ 60) (hcn : cn ≤ 30) (htx : ∀ i, tx i < 65536) (hle : ∀ i, le i ≤ 8) (hsz : ∀ i, sz i ≤ 7) (hh : mnb tx le sz cn 0 ty = none) : CI l yX7_remove wsX7_remove { frames := 3, cells := 0, slots := 0, locals := 70 } D vwCl (tys4 cI cZ cC cJ) [.ref hM] [(hM, .inr (7, [.int (nI ft), .int (nI ty), .ref mTx, .int (nI wr), .ref mPg, .int (nI cn), .ref mLe, .ref mSz, .int (nI pf), .ref mLo, .ref mHi, .ref mDp, .int (nI mn), .ref mFu, .ref mFv, .ref mRw, .ref mBl, .ref mWy, .ref mFe])), (mTx, .inl (cI, 60, .inl (fun i => nI (tx i)))), (mLe, .inl (cI, 217, .inl (fun i => nI (le i)))), (mSz, .inl (cI, 31, .inl (fun i => nI (sz i))))] ((bI false)) [(hM, .inr (7, [.int (nI 0), .int (nI 0), .ref mTx, .int (nI wr), .ref mPg, .int (nI cn), .ref mLe, .ref mSz, .int (nI pf), .ref mLo, .ref mHi, .ref mDp, .int (nI mn), .ref mFu, .ref mFv, .ref mRw, .ref mBl, .ref mWy, .ref mFe])), (mTx, .inl (cI, 60, .inl (fun i => nI (tx i)))), (mLe, .inl (cI, 217, .inl (fun i => nI (le i)))), (mSz, .inl (cI, 31, .inl (fun i => nI (sz i))))] := by
  refine CI.ofV (nar_bI2 _) (by decide +kernel) rfl (Nat.le_of_ble_eq_true rfl) ?_
  intro κ x hret
  refine V_aload_n x 0 dX7_remove_0 rfl rfl ?_
  refine V_iconst (v := nI 0) x dX7_remove_1 (by decide +kernel) ?_
  refine V_put (ty := .int) x 0 7 0 [(hM, .inr (7, [.int (nI 0), .int (nI ty), .ref mTx, .int (nI wr), .ref mPg, .int (nI cn), .ref mLe, .ref mSz, .int (nI pf), .ref mLo, .ref mHi, .ref mDp, .int (nI mn), .ref mFu, .ref mFv, .ref mRw, .ref mBl, .ref mWy, .ref mFe])), (mTx, .inl (cI, 60, .inl (fun i => nI (tx i)))), (mLe, .inl (cI, 217, .inl (fun i => nI (le i)))), (mSz, .inl (cI, 31, .inl (fun i => nI (sz i))))] hinX7 tyX7 tyX7_ok nmX7 rfl rfl (by decide) flX7_50 rfl (by decide +kernel) rfl rfl (Nat.le_of_ble_eq_true rfl) rfl dX7_remove_2 ?_
  refine V_aload_n x 0 dX7_remove_5 rfl rfl ?_
  refine V_iconst (v := nI 0) x dX7_remove_6 (by decide +kernel) ?_
  refine V_aload_n x 0 dX7_remove_7 rfl rfl ?_
  refine V_callVi x (m_take l D cI cZ cC cJ hM mTx mPg mLe mSz mLo mHi mDp mFu mFv mRw mBl mWy mFe 0 ty wr cn pf mn ) 0 (gdV mlX7_57 imX7_take seX7_take inX7 coX7_take) rfl hdX7_take ⟨Nat.le_of_ble_eq_true rfl, Nat.le_of_ble_eq_true rfl⟩ ⟨rfl, rfl⟩ 0 rfl rfl rfl [0] [(hM, .inr (7, [.int (nI 0), .int (nI 0), .ref mTx, .int (nI wr), .ref mPg, .int (nI cn), .ref mLe, .ref mSz, .int (nI pf), .ref mLo, .ref mHi, .ref mDp, .int (nI mn), .ref mFu, .ref mFv, .ref mRw, .ref mBl, .ref mWy, .ref mFe])), (mTx, .inl (cI, 60, .inl (fun i => nI (tx i)))), (mLe, .inl (cI, 217, .inl (fun i => nI (le i)))), (mSz, .inl (cI, 31, .inl (fun i => nI (sz i))))] rfl rfl [hM] rfl rfl [some 0] rfl rfl (rest := [.int (nI 0), .ref hM]) rfl (Nat.le_of_ble_eq_true rfl) dX7_remove_8 ⟨Nat.zero_le _, Nat.zero_le _⟩ ?_
  refine V_callVi x (m_numberOf l D cI cZ cC cJ hM mTx mPg mLe mSz mLo mHi mDp mFu mFv mRw mBl mWy mFe 0 0 wr cn pf mn tx le sz 0 ty (by first | omega | assumption) (by first | omega | assumption) (by first | omega | assumption) (by first | omega | assumption) (by first | omega | assumption)) 2 (gdV mlX7_76 imX7_numberOf seX7_numberOf inX7 coX7_numberOf) rfl hdX7_numberOf ⟨Nat.le_of_ble_eq_true rfl, Nat.le_of_ble_eq_true rfl⟩ ⟨rfl, rfl⟩ 0 rfl rfl rfl [0, 1, 2, 3] [(hM, .inr (7, [.int (nI 0), .int (nI 0), .ref mTx, .int (nI wr), .ref mPg, .int (nI cn), .ref mLe, .ref mSz, .int (nI pf), .ref mLo, .ref mHi, .ref mDp, .int (nI mn), .ref mFu, .ref mFv, .ref mRw, .ref mBl, .ref mWy, .ref mFe])), (mTx, .inl (cI, 60, .inl (fun i => nI (tx i)))), (mLe, .inl (cI, 217, .inl (fun i => nI (le i)))), (mSz, .inl (cI, 31, .inl (fun i => nI (sz i))))] rfl rfl [hM, mTx, mLe, mSz] rfl rfl [some 0, some 1, some 2, some 3] rfl rfl (rest := []) rfl (Nat.le_of_ble_eq_true rfl) dX7_remove_11 ⟨Nat.zero_le _, Nat.zero_le _⟩ ?_
  refine V_istore_n x 1 [(1, .int (oN (mnb tx le sz cn 0 ty))), (0, .ref hM)] dX7_remove_14 rfl (by decide) rfl ?_
  refine V_iload_n x 1 dX7_remove_15 rfl rfl ?_
  refine V_if_geO x 21 dX7_remove_16 rfl (fun z hz => by have := mnb_lt hz; omega) (fun z16 t16 => ?_) (fun f16 => ?_)
  · skip
    simp only [t16, oN_some]
    rw [hh] at t16; cases t16
  · skip
    simp only [f16, oN_none]
    refine V_iconst (v := nI 0) x dX7_remove_19 (by decide +kernel) ?_
    refine V.ci (x' := bI false) (by decide) ?_
    exact hret _ _ dX7_remove_20
set_option maxHeartbeats 4000000 in
set_option maxRecDepth 100000 in
theorem m_remove_yes (l : Launch) (D : va_G) (cI cZ cC cJ : ClassId) (hM mTx mPg mLe mSz mLo mHi mDp mFu mFv mRw mBl mWy mFe : Nat) (ft : Nat) (ty : Nat) (wr : Nat) (cn : Nat) (pf : Nat) (mn : Nat) (tx : Nat → Nat) (le : Nat → Nat) (sz : Nat → Nat) (z : Nat) (hty : ty ≤ 60) (hcn : cn ≤ 30) (htx : ∀ i, tx i < 65536) (hle : ∀ i, le i ≤ 8) (hsz : ∀ i, sz i ≤ 7) (hh : mnb tx le sz cn 0 ty = some z) : CI l yX7_remove wsX7_remove { frames := 3, cells := 0, slots := 0, locals := 70 } D vwCl (tys4 cI cZ cC cJ) [.ref hM] [(hM, .inr (7, [.int (nI ft), .int (nI ty), .ref mTx, .int (nI wr), .ref mPg, .int (nI cn), .ref mLe, .ref mSz, .int (nI pf), .ref mLo, .ref mHi, .ref mDp, .int (nI mn), .ref mFu, .ref mFv, .ref mRw, .ref mBl, .ref mWy, .ref mFe])), (mTx, .inl (cI, 60, .inl (fun i => nI (tx i)))), (mLe, .inl (cI, 217, .inl (fun i => nI (le i)))), (mSz, .inl (cI, 31, .inl (fun i => nI (sz i))))] ((bI true)) [(hM, .inr (7, [.int (nI 0), .int (nI 0), .ref mTx, .int (nI wr), .ref mPg, .int (nI (cn - 1)), .ref mLe, .ref mSz, .int (nI pf), .ref mLo, .ref mHi, .ref mDp, .int (nI 0), .ref mFu, .ref mFv, .ref mRw, .ref mBl, .ref mWy, .ref mFe])), (mTx, .inl (cI, 60, .inl (fun i => nI (tx i)))), (mLe, .inl (cI, 217, .inl (fun i => nI (((mrm z le sz (cn - z - 1)).1) i)))), (mSz, .inl (cI, 31, .inl (fun i => nI (((mrm z le sz (cn - z - 1)).2) i))))] := by
  refine CI.ofV (nar_bI2 _) (by decide +kernel) rfl (Nat.le_of_ble_eq_true rfl) ?_
  intro κ x hret
  refine V_aload_n x 0 dX7_remove_0 rfl rfl ?_
  refine V_iconst (v := nI 0) x dX7_remove_1 (by decide +kernel) ?_
  refine V_put (ty := .int) x 0 7 0 [(hM, .inr (7, [.int (nI 0), .int (nI ty), .ref mTx, .int (nI wr), .ref mPg, .int (nI cn), .ref mLe, .ref mSz, .int (nI pf), .ref mLo, .ref mHi, .ref mDp, .int (nI mn), .ref mFu, .ref mFv, .ref mRw, .ref mBl, .ref mWy, .ref mFe])), (mTx, .inl (cI, 60, .inl (fun i => nI (tx i)))), (mLe, .inl (cI, 217, .inl (fun i => nI (le i)))), (mSz, .inl (cI, 31, .inl (fun i => nI (sz i))))] hinX7 tyX7 tyX7_ok nmX7 rfl rfl (by decide) flX7_50 rfl (by decide +kernel) rfl rfl (Nat.le_of_ble_eq_true rfl) rfl dX7_remove_2 ?_
  refine V_aload_n x 0 dX7_remove_5 rfl rfl ?_
  refine V_iconst (v := nI 0) x dX7_remove_6 (by decide +kernel) ?_
  refine V_aload_n x 0 dX7_remove_7 rfl rfl ?_
  refine V_callVi x (m_take l D cI cZ cC cJ hM mTx mPg mLe mSz mLo mHi mDp mFu mFv mRw mBl mWy mFe 0 ty wr cn pf mn ) 0 (gdV mlX7_57 imX7_take seX7_take inX7 coX7_take) rfl hdX7_take ⟨Nat.le_of_ble_eq_true rfl, Nat.le_of_ble_eq_true rfl⟩ ⟨rfl, rfl⟩ 0 rfl rfl rfl [0] [(hM, .inr (7, [.int (nI 0), .int (nI 0), .ref mTx, .int (nI wr), .ref mPg, .int (nI cn), .ref mLe, .ref mSz, .int (nI pf), .ref mLo, .ref mHi, .ref mDp, .int (nI mn), .ref mFu, .ref mFv, .ref mRw, .ref mBl, .ref mWy, .ref mFe])), (mTx, .inl (cI, 60, .inl (fun i => nI (tx i)))), (mLe, .inl (cI, 217, .inl (fun i => nI (le i)))), (mSz, .inl (cI, 31, .inl (fun i => nI (sz i))))] rfl rfl [hM] rfl rfl [some 0] rfl rfl (rest := [.int (nI 0), .ref hM]) rfl (Nat.le_of_ble_eq_true rfl) dX7_remove_8 ⟨Nat.zero_le _, Nat.zero_le _⟩ ?_
  refine V_callVi x (m_numberOf l D cI cZ cC cJ hM mTx mPg mLe mSz mLo mHi mDp mFu mFv mRw mBl mWy mFe 0 0 wr cn pf mn tx le sz 0 ty (by first | omega | assumption) (by first | omega | assumption) (by first | omega | assumption) (by first | omega | assumption) (by first | omega | assumption)) 2 (gdV mlX7_76 imX7_numberOf seX7_numberOf inX7 coX7_numberOf) rfl hdX7_numberOf ⟨Nat.le_of_ble_eq_true rfl, Nat.le_of_ble_eq_true rfl⟩ ⟨rfl, rfl⟩ 0 rfl rfl rfl [0, 1, 2, 3] [(hM, .inr (7, [.int (nI 0), .int (nI 0), .ref mTx, .int (nI wr), .ref mPg, .int (nI cn), .ref mLe, .ref mSz, .int (nI pf), .ref mLo, .ref mHi, .ref mDp, .int (nI mn), .ref mFu, .ref mFv, .ref mRw, .ref mBl, .ref mWy, .ref mFe])), (mTx, .inl (cI, 60, .inl (fun i => nI (tx i)))), (mLe, .inl (cI, 217, .inl (fun i => nI (le i)))), (mSz, .inl (cI, 31, .inl (fun i => nI (sz i))))] rfl rfl [hM, mTx, mLe, mSz] rfl rfl [some 0, some 1, some 2, some 3] rfl rfl (rest := []) rfl (Nat.le_of_ble_eq_true rfl) dX7_remove_11 ⟨Nat.zero_le _, Nat.zero_le _⟩ ?_
  refine V_istore_n x 1 [(1, .int (oN (mnb tx le sz cn 0 ty))), (0, .ref hM)] dX7_remove_14 rfl (by decide) rfl ?_
  refine V_iload_n x 1 dX7_remove_15 rfl rfl ?_
  refine V_if_geO x 21 dX7_remove_16 rfl (fun z hz => by have := mnb_lt hz; omega) (fun z16 t16 => ?_) (fun f16 => ?_)
  · skip
    simp only [t16, oN_some]
    obtain rfl : z = z16 := by rw [hh] at t16; exact Option.some.inj t16
    have hz := mnb_lt hh
    refine V_iload_n x 1 dX7_remove_21 rfl rfl ?_
    refine V_istore_n x 2 [(2, .int (nI z)), (1, .int (nI z)), (0, .ref hM)] dX7_remove_22 rfl (by decide) rfl ?_
    have L23 : ∀ (k23 : Nat) (j : Nat) (le1 : Nat → Nat) (sz1 : Nat → Nat) (hj : z + j + 1 ≤ cn) (e1 : mrm z le sz j = (le1, sz1)) (hk23 : cn - j = k23), V κ 0 0 [(hM, .inr (7, [.int (nI 0), .int (nI 0), .ref mTx, .int (nI wr), .ref mPg, .int (nI cn), .ref mLe, .ref mSz, .int (nI pf), .ref mLo, .ref mHi, .ref mDp, .int (nI mn), .ref mFu, .ref mFv, .ref mRw, .ref mBl, .ref mWy, .ref mFe])), (mTx, .inl (cI, 60, .inl (fun i => nI (tx i)))), (mLe, .inl (cI, 217, .inl (fun i => nI (le1 i)))), (mSz, .inl (cI, 31, .inl (fun i => nI (sz1 i))))] 23 [(0, .ref hM), (2, .int (nI (z + j)))] [] := by
      intro k23
      induction k23 using Nat.strongRecOn with
      | ind k23 ih23 =>
        intro j le1 sz1 hj e1 hk23
        refine V_iload_n x 2 dX7_remove_23 rfl rfl ?_
        refine V_iconst (v := nI 1) x dX7_remove_24 (by decide +kernel) ?_
        refine V_iadd x (nI ((z + j) + 1)) dX7_remove_25 (nI_add _ _) ?_
        refine V_aload_n x 0 dX7_remove_26 rfl rfl ?_
        refine V_get x 0 7 5 hinX7 rfl rfl (by decide) flX7_65 rfl dX7_remove_27 ?_
        refine V_icmp_geN x 47 dX7_remove_30 rfl (fun t30 => ?_) (fun f30 => ?_)
        · skip
          refine V_aload_n x 0 dX7_remove_47 rfl rfl ?_
          refine V_dup x dX7_remove_48 rfl ?_
          refine V_get x 0 7 5 hinX7 rfl rfl (by decide) flX7_65 rfl dX7_remove_49 ?_
          refine V_iconst (v := nI 1) x dX7_remove_52 (by decide +kernel) ?_
          refine V_isub x (nI (cn - 1)) dX7_remove_53 (pk_sub (by omega)) ?_
          refine V_put (ty := .int) x 0 7 5 [(hM, .inr (7, [.int (nI 0), .int (nI 0), .ref mTx, .int (nI wr), .ref mPg, .int (nI (cn - 1)), .ref mLe, .ref mSz, .int (nI pf), .ref mLo, .ref mHi, .ref mDp, .int (nI mn), .ref mFu, .ref mFv, .ref mRw, .ref mBl, .ref mWy, .ref mFe])), (mTx, .inl (cI, 60, .inl (fun i => nI (tx i)))), (mLe, .inl (cI, 217, .inl (fun i => nI (le1 i)))), (mSz, .inl (cI, 31, .inl (fun i => nI (sz1 i))))] hinX7 tyX7 tyX7_ok nmX7 rfl rfl (by decide) flX7_65 rfl (by decide +kernel) rfl rfl (Nat.le_of_ble_eq_true rfl) rfl dX7_remove_54 ?_
          refine V_aload_n x 0 dX7_remove_57 rfl rfl ?_
          refine V_iconst (v := nI 0) x dX7_remove_58 (by decide +kernel) ?_
          refine V_put (ty := .int) x 0 7 12 [(hM, .inr (7, [.int (nI 0), .int (nI 0), .ref mTx, .int (nI wr), .ref mPg, .int (nI (cn - 1)), .ref mLe, .ref mSz, .int (nI pf), .ref mLo, .ref mHi, .ref mDp, .int (nI 0), .ref mFu, .ref mFv, .ref mRw, .ref mBl, .ref mWy, .ref mFe])), (mTx, .inl (cI, 60, .inl (fun i => nI (tx i)))), (mLe, .inl (cI, 217, .inl (fun i => nI (le1 i)))), (mSz, .inl (cI, 31, .inl (fun i => nI (sz1 i))))] hinX7 tyX7 tyX7_ok nmX7 rfl rfl (by decide) flX7_84 rfl (by decide +kernel) rfl rfl (Nat.le_of_ble_eq_true rfl) rfl dX7_remove_59 ?_
          refine V_iconst (v := nI 1) x dX7_remove_62 (by decide +kernel) ?_
          rw [show cn - z - 1 = j by omega, e1] at hret
          refine V.ci (x' := bI true) (by decide) ?_
          exact hret _ _ dX7_remove_63
        · skip
          refine V_aload_n x 0 dX7_remove_33 rfl rfl ?_
          refine V_iload_n x 2 dX7_remove_34 rfl rfl ?_
          refine V_iload_n x 2 dX7_remove_35 rfl rfl ?_
          refine V_iconst (v := nI 1) x dX7_remove_36 (by decide +kernel) ?_
          refine V_iadd x (nI ((z + j) + 1)) dX7_remove_37 (nI_add _ _) ?_
          refine V_callVv x (m_move l D cI cZ cC cJ hM mTx mPg mLe mSz mLo mHi mDp mFu mFv mRw mBl mWy mFe 0 0 wr cn pf mn le1 sz1 (z + j) ((z + j) + 1) (by first | omega | assumption) (by first | omega | assumption)) 2 (gdV mlX7_80 imX7_move seX7_move inX7 coX7_move) rfl hdX7_move ⟨Nat.le_of_ble_eq_true rfl, Nat.le_of_ble_eq_true rfl⟩ ⟨rfl, rfl⟩ 0 rfl rfl rfl [0, 2, 3] [(hM, .inr (7, [.int (nI 0), .int (nI 0), .ref mTx, .int (nI wr), .ref mPg, .int (nI cn), .ref mLe, .ref mSz, .int (nI pf), .ref mLo, .ref mHi, .ref mDp, .int (nI mn), .ref mFu, .ref mFv, .ref mRw, .ref mBl, .ref mWy, .ref mFe])), (mTx, .inl (cI, 60, .inl (fun i => nI (tx i)))), (mLe, .inl (cI, 217, .inl (fun i => nI ((mvl le1 (z + j) ((z + j) + 1) 7) i)))), (mSz, .inl (cI, 31, .inl (fun i => nI ((va_up sz1 (z + j) (sz1 ((z + j) + 1))) i))))] rfl rfl [hM, mLe, mSz] rfl rfl [some 0, none, some 1, some 2] rfl rfl (rest := []) rfl (Nat.le_of_ble_eq_true rfl) dX7_remove_38 ⟨Nat.zero_le _, Nat.zero_le _⟩ ?_
          refine V_iinc x 2 1 [(2, .int (nI ((z + j) + 1))), (0, .ref hM)] dX7_remove_41 rfl (iinc_1 _) (by decide) rfl ?_
          refine V_goto x 23 dX7_remove_44 rfl ?_
          refine V.sub [1, 0] (lv' := [(0, .ref hM), (2, .int (nI (z + (j + 1))))]) rfl ?_
          exact ih23 (cn - (j + 1)) (by omega) (j + 1) (mvl le1 (z + j) ((z + j) + 1) 7) (va_up sz1 (z + j) (sz1 ((z + j) + 1))) (by omega) (by rw [mrm, e1]) rfl
    refine V.sub [2, 0] (lv' := [(0, .ref hM), (2, .int (nI (z + 0)))]) rfl ?_
    exact L23 _ 0 le sz (by omega) rfl rfl
  · skip
    simp only [f16, oN_none]
    rw [hh] at f16; cases f16
set_option maxHeartbeats 4000000 in
set_option maxRecDepth 100000 in
theorem m_found0 (l : Launch) (D : va_G) (cI cZ cC cJ : ClassId) (hM mTx mPg mLe mSz mLo mHi mDp mFu mFv mRw mBl mWy mFe : Nat) (ft : Nat) (ty : Nat) (wr : Nat) (cn : Nat) (pf : Nat) (mn : Nat) (gu : Nat → Nat) (gv : Nat → Nat) (k : Nat) (hk : k < mn) (hm : mn ≤ 420) : CI l yX7_found wsX7_found { frames := 0, cells := 0, slots := 0, locals := 0 } D vwCl (tys4 cI cZ cC cJ) [.ref hM, .int (nI k), .int (nI 0)] [(hM, .inr (7, [.int (nI ft), .int (nI ty), .ref mTx, .int (nI wr), .ref mPg, .int (nI cn), .ref mLe, .ref mSz, .int (nI pf), .ref mLo, .ref mHi, .ref mDp, .int (nI mn), .ref mFu, .ref mFv, .ref mRw, .ref mBl, .ref mWy, .ref mFe])), (mFu, .inl (cI, 420, .inl (fun i => nI (gu i)))), (mFv, .inl (cI, 420, .inl (fun i => nI (gv i))))] ((nI (gu k))) [(hM, .inr (7, [.int (nI 0), .int (nI ty), .ref mTx, .int (nI wr), .ref mPg, .int (nI cn), .ref mLe, .ref mSz, .int (nI pf), .ref mLo, .ref mHi, .ref mDp, .int (nI mn), .ref mFu, .ref mFv, .ref mRw, .ref mBl, .ref mWy, .ref mFe])), (mFu, .inl (cI, 420, .inl (fun i => nI (gu i)))), (mFv, .inl (cI, 420, .inl (fun i => nI (gv i))))] := by
  refine CI.ofV rfl (by decide +kernel) rfl (Nat.le_of_ble_eq_true rfl) ?_
  intro κ x hret
  refine V_aload_n x 0 dX7_found_0 rfl rfl ?_
  refine V_iload_n x 1 dX7_found_1 rfl rfl ?_
  refine V_if_ltN x 13 dX7_found_2 rfl (fun t2 => ?_) (fun f2 => ?_)
  · skip
    exact t2.elim
  · skip
    refine V_iload_n x 1 dX7_found_5 rfl rfl ?_
    refine V_aload_n x 0 dX7_found_6 rfl rfl ?_
    refine V_get x 0 7 12 hinX7 rfl rfl (by decide) flX7_84 rfl dX7_found_7 ?_
    refine V_icmp_ltN x 17 dX7_found_10 rfl (fun t10 => ?_) (fun f10 => ?_)
    · skip
      refine V_iload_n x 2 dX7_found_17 rfl rfl ?_
      refine V_if_ltN x 26 dX7_found_18 rfl (fun t18 => ?_) (fun f18 => ?_)
      · skip
        exact t18.elim
      · skip
        refine V_iload_n x 2 dX7_found_21 rfl rfl ?_
        refine V_iconst (v := nI 1) x dX7_found_22 (by decide +kernel) ?_
        refine V_icmp_leN x 30 dX7_found_23 rfl (fun t23 => ?_) (fun f23 => ?_)
        · skip
          refine V_iconst (v := nI 0) x dX7_found_30 (by decide +kernel) ?_
          refine V_put (ty := .int) x 0 7 0 [(hM, .inr (7, [.int (nI 0), .int (nI ty), .ref mTx, .int (nI wr), .ref mPg, .int (nI cn), .ref mLe, .ref mSz, .int (nI pf), .ref mLo, .ref mHi, .ref mDp, .int (nI mn), .ref mFu, .ref mFv, .ref mRw, .ref mBl, .ref mWy, .ref mFe])), (mFu, .inl (cI, 420, .inl (fun i => nI (gu i)))), (mFv, .inl (cI, 420, .inl (fun i => nI (gv i))))] hinX7 tyX7 tyX7_ok nmX7 rfl rfl (by decide) flX7_50 rfl (by decide +kernel) rfl rfl (Nat.le_of_ble_eq_true rfl) rfl dX7_found_31 ?_
          refine V_aload_n x 0 dX7_found_34 rfl rfl ?_
          refine V_get x 0 7 0 hinX7 rfl rfl (by decide) flX7_50 rfl dX7_found_35 ?_
          refine V_if_leN x 45 dX7_found_38 rfl (fun t38 => ?_) (fun f38 => ?_)
          · skip
            refine V_iload_n x 2 dX7_found_45 rfl rfl ?_
            refine V_if_neN x 58 dX7_found_46 rfl (fun t46 => ?_) (fun f46 => ?_)
            · skip
              omega
            · skip
              refine V_aload_n x 0 dX7_found_49 rfl rfl ?_
              refine V_get x 0 7 13 hinX7 rfl rfl (by decide) flX7_31 rfl dX7_found_50 ?_
              refine V_iload_n x 1 dX7_found_53 rfl rfl ?_
              refine V_iald x 1 0 rfl rfl dX7_found_54 (by omega) (by omega) ?_
              refine V_goto x 64 dX7_found_55 rfl ?_
              exact hret _ _ dX7_found_64
          · skip
            omega
        · skip
          omega
    · skip
      omega
set_option maxHeartbeats 4000000 in
set_option maxRecDepth 100000 in
theorem m_found1 (l : Launch) (D : va_G) (cI cZ cC cJ : ClassId) (hM mTx mPg mLe mSz mLo mHi mDp mFu mFv mRw mBl mWy mFe : Nat) (ft : Nat) (ty : Nat) (wr : Nat) (cn : Nat) (pf : Nat) (mn : Nat) (gu : Nat → Nat) (gv : Nat → Nat) (k : Nat) (hk : k < mn) (hm : mn ≤ 420) : CI l yX7_found wsX7_found { frames := 0, cells := 0, slots := 0, locals := 0 } D vwCl (tys4 cI cZ cC cJ) [.ref hM, .int (nI k), .int (nI 1)] [(hM, .inr (7, [.int (nI ft), .int (nI ty), .ref mTx, .int (nI wr), .ref mPg, .int (nI cn), .ref mLe, .ref mSz, .int (nI pf), .ref mLo, .ref mHi, .ref mDp, .int (nI mn), .ref mFu, .ref mFv, .ref mRw, .ref mBl, .ref mWy, .ref mFe])), (mFu, .inl (cI, 420, .inl (fun i => nI (gu i)))), (mFv, .inl (cI, 420, .inl (fun i => nI (gv i))))] ((nI (gv k))) [(hM, .inr (7, [.int (nI 0), .int (nI ty), .ref mTx, .int (nI wr), .ref mPg, .int (nI cn), .ref mLe, .ref mSz, .int (nI pf), .ref mLo, .ref mHi, .ref mDp, .int (nI mn), .ref mFu, .ref mFv, .ref mRw, .ref mBl, .ref mWy, .ref mFe])), (mFu, .inl (cI, 420, .inl (fun i => nI (gu i)))), (mFv, .inl (cI, 420, .inl (fun i => nI (gv i))))] := by
  refine CI.ofV rfl (by decide +kernel) rfl (Nat.le_of_ble_eq_true rfl) ?_
  intro κ x hret
  refine V_aload_n x 0 dX7_found_0 rfl rfl ?_
  refine V_iload_n x 1 dX7_found_1 rfl rfl ?_
  refine V_if_ltN x 13 dX7_found_2 rfl (fun t2 => ?_) (fun f2 => ?_)
  · skip
    exact t2.elim
  · skip
    refine V_iload_n x 1 dX7_found_5 rfl rfl ?_
    refine V_aload_n x 0 dX7_found_6 rfl rfl ?_
    refine V_get x 0 7 12 hinX7 rfl rfl (by decide) flX7_84 rfl dX7_found_7 ?_
    refine V_icmp_ltN x 17 dX7_found_10 rfl (fun t10 => ?_) (fun f10 => ?_)
    · skip
      refine V_iload_n x 2 dX7_found_17 rfl rfl ?_
      refine V_if_ltN x 26 dX7_found_18 rfl (fun t18 => ?_) (fun f18 => ?_)
      · skip
        exact t18.elim
      · skip
        refine V_iload_n x 2 dX7_found_21 rfl rfl ?_
        refine V_iconst (v := nI 1) x dX7_found_22 (by decide +kernel) ?_
        refine V_icmp_leN x 30 dX7_found_23 rfl (fun t23 => ?_) (fun f23 => ?_)
        · skip
          refine V_iconst (v := nI 0) x dX7_found_30 (by decide +kernel) ?_
          refine V_put (ty := .int) x 0 7 0 [(hM, .inr (7, [.int (nI 0), .int (nI ty), .ref mTx, .int (nI wr), .ref mPg, .int (nI cn), .ref mLe, .ref mSz, .int (nI pf), .ref mLo, .ref mHi, .ref mDp, .int (nI mn), .ref mFu, .ref mFv, .ref mRw, .ref mBl, .ref mWy, .ref mFe])), (mFu, .inl (cI, 420, .inl (fun i => nI (gu i)))), (mFv, .inl (cI, 420, .inl (fun i => nI (gv i))))] hinX7 tyX7 tyX7_ok nmX7 rfl rfl (by decide) flX7_50 rfl (by decide +kernel) rfl rfl (Nat.le_of_ble_eq_true rfl) rfl dX7_found_31 ?_
          refine V_aload_n x 0 dX7_found_34 rfl rfl ?_
          refine V_get x 0 7 0 hinX7 rfl rfl (by decide) flX7_50 rfl dX7_found_35 ?_
          refine V_if_leN x 45 dX7_found_38 rfl (fun t38 => ?_) (fun f38 => ?_)
          · skip
            refine V_iload_n x 2 dX7_found_45 rfl rfl ?_
            refine V_if_neN x 58 dX7_found_46 rfl (fun t46 => ?_) (fun f46 => ?_)
            · skip
              refine V_aload_n x 0 dX7_found_58 rfl rfl ?_
              refine V_get x 0 7 14 hinX7 rfl rfl (by decide) flX7_34 rfl dX7_found_59 ?_
              refine V_iload_n x 1 dX7_found_62 rfl rfl ?_
              refine V_iald x 2 0 rfl rfl dX7_found_63 (by omega) (by omega) ?_
              exact hret _ _ dX7_found_64
            · skip
              omega
          · skip
            omega
        · skip
          omega
    · skip
      omega
set_option maxHeartbeats 4000000 in
set_option maxRecDepth 100000 in
theorem m_found_k (l : Launch) (D : va_G) (cI cZ cC cJ : ClassId) (hM mTx mPg mLe mSz mLo mHi mDp mFu mFv mRw mBl mWy mFe : Nat) (ft : Nat) (ty : Nat) (wr : Nat) (cn : Nat) (pf : Nat) (mn : Nat) (gu : Nat → Nat) (gv : Nat → Nat) (z : Int32) (y : Int32) (hz : ¬ (0 ≤ z ∧ z < nI mn)) : CI l yX7_found wsX7_found { frames := 0, cells := 0, slots := 0, locals := 0 } D vwCl (tys4 cI cZ cC cJ) [.ref hM, .int z, .int y] [(hM, .inr (7, [.int (nI ft), .int (nI ty), .ref mTx, .int (nI wr), .ref mPg, .int (nI cn), .ref mLe, .ref mSz, .int (nI pf), .ref mLo, .ref mHi, .ref mDp, .int (nI mn), .ref mFu, .ref mFv, .ref mRw, .ref mBl, .ref mWy, .ref mFe])), (mFu, .inl (cI, 420, .inl (fun i => nI (gu i)))), (mFv, .inl (cI, 420, .inl (fun i => nI (gv i))))] ((nI 0)) [(hM, .inr (7, [.int (nI 1), .int (nI ty), .ref mTx, .int (nI wr), .ref mPg, .int (nI cn), .ref mLe, .ref mSz, .int (nI pf), .ref mLo, .ref mHi, .ref mDp, .int (nI mn), .ref mFu, .ref mFv, .ref mRw, .ref mBl, .ref mWy, .ref mFe])), (mFu, .inl (cI, 420, .inl (fun i => nI (gu i)))), (mFv, .inl (cI, 420, .inl (fun i => nI (gv i))))] := by
  refine CI.ofV rfl (by decide +kernel) rfl (Nat.le_of_ble_eq_true rfl) ?_
  intro κ x hret
  refine V_aload_n x 0 dX7_found_0 rfl rfl ?_
  refine V_iload_n x 1 dX7_found_1 rfl rfl ?_
  refine V_if_lt x 13 dX7_found_2 rfl (fun t2 => ?_) (fun f2 => ?_)
  · skip
    refine V_iconst (v := nI 1) x dX7_found_13 (by decide +kernel) ?_
    refine V_goto x 31 dX7_found_14 rfl ?_
    refine V_put (ty := .int) x 0 7 0 [(hM, .inr (7, [.int (nI 1), .int (nI ty), .ref mTx, .int (nI wr), .ref mPg, .int (nI cn), .ref mLe, .ref mSz, .int (nI pf), .ref mLo, .ref mHi, .ref mDp, .int (nI mn), .ref mFu, .ref mFv, .ref mRw, .ref mBl, .ref mWy, .ref mFe])), (mFu, .inl (cI, 420, .inl (fun i => nI (gu i)))), (mFv, .inl (cI, 420, .inl (fun i => nI (gv i))))] hinX7 tyX7 tyX7_ok nmX7 rfl rfl (by decide) flX7_50 rfl (by decide +kernel) rfl rfl (Nat.le_of_ble_eq_true rfl) rfl dX7_found_31 ?_
    refine V_aload_n x 0 dX7_found_34 rfl rfl ?_
    refine V_get x 0 7 0 hinX7 rfl rfl (by decide) flX7_50 rfl dX7_found_35 ?_
    refine V_if_leN x 45 dX7_found_38 rfl (fun t38 => ?_) (fun f38 => ?_)
    · skip
      omega
    · skip
      refine V_iconst (v := nI 0) x dX7_found_41 (by decide +kernel) ?_
      refine V_goto x 64 dX7_found_42 rfl ?_
      exact hret _ _ dX7_found_64
  · skip
    refine V_iload_n x 1 dX7_found_5 rfl rfl ?_
    refine V_aload_n x 0 dX7_found_6 rfl rfl ?_
    refine V_get x 0 7 12 hinX7 rfl rfl (by decide) flX7_84 rfl dX7_found_7 ?_
    refine V_icmp_lt x 17 dX7_found_10 rfl (fun t10 => ?_) (fun f10 => ?_)
    · skip
      exact absurd ⟨Int32.not_lt.mp f2, t10⟩ hz
    · skip
      refine V_iconst (v := nI 1) x dX7_found_13 (by decide +kernel) ?_
      refine V_goto x 31 dX7_found_14 rfl ?_
      refine V_put (ty := .int) x 0 7 0 [(hM, .inr (7, [.int (nI 1), .int (nI ty), .ref mTx, .int (nI wr), .ref mPg, .int (nI cn), .ref mLe, .ref mSz, .int (nI pf), .ref mLo, .ref mHi, .ref mDp, .int (nI mn), .ref mFu, .ref mFv, .ref mRw, .ref mBl, .ref mWy, .ref mFe])), (mFu, .inl (cI, 420, .inl (fun i => nI (gu i)))), (mFv, .inl (cI, 420, .inl (fun i => nI (gv i))))] hinX7 tyX7 tyX7_ok nmX7 rfl rfl (by decide) flX7_50 rfl (by decide +kernel) rfl rfl (Nat.le_of_ble_eq_true rfl) rfl dX7_found_31 ?_
      refine V_aload_n x 0 dX7_found_34 rfl rfl ?_
      refine V_get x 0 7 0 hinX7 rfl rfl (by decide) flX7_50 rfl dX7_found_35 ?_
      refine V_if_leN x 45 dX7_found_38 rfl (fun t38 => ?_) (fun f38 => ?_)
      · skip
        omega
      · skip
        refine V_iconst (v := nI 0) x dX7_found_41 (by decide +kernel) ?_
        refine V_goto x 64 dX7_found_42 rfl ?_
        exact hret _ _ dX7_found_64
set_option maxHeartbeats 4000000 in
set_option maxRecDepth 100000 in
theorem m_found_w (l : Launch) (D : va_G) (cI cZ cC cJ : ClassId) (hM mTx mPg mLe mSz mLo mHi mDp mFu mFv mRw mBl mWy mFe : Nat) (ft : Nat) (ty : Nat) (wr : Nat) (cn : Nat) (pf : Nat) (mn : Nat) (gu : Nat → Nat) (gv : Nat → Nat) (k : Nat) (y : Int32) (hk : k < mn) (hm : mn ≤ 420) (hy : ¬ (0 ≤ y ∧ y ≤ 1)) : CI l yX7_found wsX7_found { frames := 0, cells := 0, slots := 0, locals := 0 } D vwCl (tys4 cI cZ cC cJ) [.ref hM, .int (nI k), .int y] [(hM, .inr (7, [.int (nI ft), .int (nI ty), .ref mTx, .int (nI wr), .ref mPg, .int (nI cn), .ref mLe, .ref mSz, .int (nI pf), .ref mLo, .ref mHi, .ref mDp, .int (nI mn), .ref mFu, .ref mFv, .ref mRw, .ref mBl, .ref mWy, .ref mFe])), (mFu, .inl (cI, 420, .inl (fun i => nI (gu i)))), (mFv, .inl (cI, 420, .inl (fun i => nI (gv i))))] ((nI 0)) [(hM, .inr (7, [.int (nI 2), .int (nI ty), .ref mTx, .int (nI wr), .ref mPg, .int (nI cn), .ref mLe, .ref mSz, .int (nI pf), .ref mLo, .ref mHi, .ref mDp, .int (nI mn), .ref mFu, .ref mFv, .ref mRw, .ref mBl, .ref mWy, .ref mFe])), (mFu, .inl (cI, 420, .inl (fun i => nI (gu i)))), (mFv, .inl (cI, 420, .inl (fun i => nI (gv i))))] := by
  refine CI.ofV rfl (by decide +kernel) rfl (Nat.le_of_ble_eq_true rfl) ?_
  intro κ x hret
  refine V_aload_n x 0 dX7_found_0 rfl rfl ?_
  refine V_iload_n x 1 dX7_found_1 rfl rfl ?_
  refine V_if_ltN x 13 dX7_found_2 rfl (fun t2 => ?_) (fun f2 => ?_)
  · skip
    exact t2.elim
  · skip
    refine V_iload_n x 1 dX7_found_5 rfl rfl ?_
    refine V_aload_n x 0 dX7_found_6 rfl rfl ?_
    refine V_get x 0 7 12 hinX7 rfl rfl (by decide) flX7_84 rfl dX7_found_7 ?_
    refine V_icmp_ltN x 17 dX7_found_10 rfl (fun t10 => ?_) (fun f10 => ?_)
    · skip
      refine V_iload_n x 2 dX7_found_17 rfl rfl ?_
      refine V_if_lt x 26 dX7_found_18 rfl (fun t18 => ?_) (fun f18 => ?_)
      · skip
        refine V_iconst (v := nI 2) x dX7_found_26 (by decide +kernel) ?_
        refine V_goto x 31 dX7_found_27 rfl ?_
        refine V_put (ty := .int) x 0 7 0 [(hM, .inr (7, [.int (nI 2), .int (nI ty), .ref mTx, .int (nI wr), .ref mPg, .int (nI cn), .ref mLe, .ref mSz, .int (nI pf), .ref mLo, .ref mHi, .ref mDp, .int (nI mn), .ref mFu, .ref mFv, .ref mRw, .ref mBl, .ref mWy, .ref mFe])), (mFu, .inl (cI, 420, .inl (fun i => nI (gu i)))), (mFv, .inl (cI, 420, .inl (fun i => nI (gv i))))] hinX7 tyX7 tyX7_ok nmX7 rfl rfl (by decide) flX7_50 rfl (by decide +kernel) rfl rfl (Nat.le_of_ble_eq_true rfl) rfl dX7_found_31 ?_
        refine V_aload_n x 0 dX7_found_34 rfl rfl ?_
        refine V_get x 0 7 0 hinX7 rfl rfl (by decide) flX7_50 rfl dX7_found_35 ?_
        refine V_if_leN x 45 dX7_found_38 rfl (fun t38 => ?_) (fun f38 => ?_)
        · skip
          omega
        · skip
          refine V_iconst (v := nI 0) x dX7_found_41 (by decide +kernel) ?_
          refine V_goto x 64 dX7_found_42 rfl ?_
          exact hret _ _ dX7_found_64
      · skip
        refine V_iload_n x 2 dX7_found_21 rfl rfl ?_
        refine V_iconst (v := nI 1) x dX7_found_22 (by decide +kernel) ?_
        refine V_icmp_le x 30 dX7_found_23 rfl (fun t23 => ?_) (fun f23 => ?_)
        · skip
          exact absurd ⟨Int32.not_lt.mp f18, t23⟩ hy
        · skip
          refine V_iconst (v := nI 2) x dX7_found_26 (by decide +kernel) ?_
          refine V_goto x 31 dX7_found_27 rfl ?_
          refine V_put (ty := .int) x 0 7 0 [(hM, .inr (7, [.int (nI 2), .int (nI ty), .ref mTx, .int (nI wr), .ref mPg, .int (nI cn), .ref mLe, .ref mSz, .int (nI pf), .ref mLo, .ref mHi, .ref mDp, .int (nI mn), .ref mFu, .ref mFv, .ref mRw, .ref mBl, .ref mWy, .ref mFe])), (mFu, .inl (cI, 420, .inl (fun i => nI (gu i)))), (mFv, .inl (cI, 420, .inl (fun i => nI (gv i))))] hinX7 tyX7 tyX7_ok nmX7 rfl rfl (by decide) flX7_50 rfl (by decide +kernel) rfl rfl (Nat.le_of_ble_eq_true rfl) rfl dX7_found_31 ?_
          refine V_aload_n x 0 dX7_found_34 rfl rfl ?_
          refine V_get x 0 7 0 hinX7 rfl rfl (by decide) flX7_50 rfl dX7_found_35 ?_
          refine V_if_leN x 45 dX7_found_38 rfl (fun t38 => ?_) (fun f38 => ?_)
          · skip
            omega
          · skip
            refine V_iconst (v := nI 0) x dX7_found_41 (by decide +kernel) ?_
            refine V_goto x 64 dX7_found_42 rfl ?_
            exact hret _ _ dX7_found_64
    · skip
      omega
set_option maxHeartbeats 4000000 in
set_option maxRecDepth 100000 in
theorem m_scan (l : Launch) (D : va_G) (cI cZ cC cJ : ClassId) (hM mTx mPg mLe mSz mLo mHi mDp mFu mFv mRw mBl mWy mFe : Nat) (ft : Nat) (ty : Nat) (wr : Nat) (cn : Nat) (pf : Nat) (mn : Nat) (tx : Nat → Nat) (le : Nat → Nat) (sz : Nat → Nat) (gu : Nat → Nat) (gv : Nat → Nat) (hty : ty ≤ 60) (hcn : cn ≤ 30) (htx : ∀ i, tx i < 65536) (hle : ∀ i, le i ≤ 8) (hsz : ∀ i, sz i ≤ 7) : CI l yX7_scan wsX7_scan { frames := 3, cells := 0, slots := 0, locals := 70 } D vwCl (tys4 cI cZ cC cJ) [.ref hM] [(hM, .inr (7, [.int (nI ft), .int (nI ty), .ref mTx, .int (nI wr), .ref mPg, .int (nI cn), .ref mLe, .ref mSz, .int (nI pf), .ref mLo, .ref mHi, .ref mDp, .int (nI mn), .ref mFu, .ref mFv, .ref mRw, .ref mBl, .ref mWy, .ref mFe])), (mTx, .inl (cI, 60, .inl (fun i => nI (tx i)))), (mLe, .inl (cI, 217, .inl (fun i => nI (le i)))), (mSz, .inl (cI, 31, .inl (fun i => nI (sz i)))), (mFu, .inl (cI, 420, .inl (fun i => nI (gu i)))), (mFv, .inl (cI, 420, .inl (fun i => nI (gv i))))] ((nI ((mso tx le sz cn gu gv ty).2.2))) [(hM, .inr (7, [.int (nI 0), .int (nI 0), .ref mTx, .int (nI wr), .ref mPg, .int (nI cn), .ref mLe, .ref mSz, .int (nI pf), .ref mLo, .ref mHi, .ref mDp, .int (nI ((mso tx le sz cn gu gv ty).2.2)), .ref mFu, .ref mFv, .ref mRw, .ref mBl, .ref mWy, .ref mFe])), (mTx, .inl (cI, 60, .inl (fun i => nI (tx i)))), (mLe, .inl (cI, 217, .inl (fun i => nI (le i)))), (mSz, .inl (cI, 31, .inl (fun i => nI (sz i)))), (mFu, .inl (cI, 420, .inl (fun i => nI (((mso tx le sz cn gu gv ty).1) i)))), (mFv, .inl (cI, 420, .inl (fun i => nI (((mso tx le sz cn gu gv ty).2.1) i))))] := by
  refine CI.ofV rfl (by decide +kernel) rfl (Nat.le_of_ble_eq_true rfl) ?_
  intro κ x hret
  refine V_aload_n x 0 dX7_scan_0 rfl rfl ?_
  refine V_iconst (v := nI 0) x dX7_scan_1 (by decide +kernel) ?_
  refine V_put (ty := .int) x 0 7 0 [(hM, .inr (7, [.int (nI 0), .int (nI ty), .ref mTx, .int (nI wr), .ref mPg, .int (nI cn), .ref mLe, .ref mSz, .int (nI pf), .ref mLo, .ref mHi, .ref mDp, .int (nI mn), .ref mFu, .ref mFv, .ref mRw, .ref mBl, .ref mWy, .ref mFe])), (mTx, .inl (cI, 60, .inl (fun i => nI (tx i)))), (mLe, .inl (cI, 217, .inl (fun i => nI (le i)))), (mSz, .inl (cI, 31, .inl (fun i => nI (sz i)))), (mFu, .inl (cI, 420, .inl (fun i => nI (gu i)))), (mFv, .inl (cI, 420, .inl (fun i => nI (gv i))))] hinX7 tyX7 tyX7_ok nmX7 rfl rfl (by decide) flX7_50 rfl (by decide +kernel) rfl rfl (Nat.le_of_ble_eq_true rfl) rfl dX7_scan_2 ?_
  refine V_aload_n x 0 dX7_scan_5 rfl rfl ?_
  refine V_callVi x (m_take l D cI cZ cC cJ hM mTx mPg mLe mSz mLo mHi mDp mFu mFv mRw mBl mWy mFe 0 ty wr cn pf mn ) 0 (gdV mlX7_57 imX7_take seX7_take inX7 coX7_take) rfl hdX7_take ⟨Nat.le_of_ble_eq_true rfl, Nat.le_of_ble_eq_true rfl⟩ ⟨rfl, rfl⟩ 0 rfl rfl rfl [0] [(hM, .inr (7, [.int (nI 0), .int (nI 0), .ref mTx, .int (nI wr), .ref mPg, .int (nI cn), .ref mLe, .ref mSz, .int (nI pf), .ref mLo, .ref mHi, .ref mDp, .int (nI mn), .ref mFu, .ref mFv, .ref mRw, .ref mBl, .ref mWy, .ref mFe])), (mTx, .inl (cI, 60, .inl (fun i => nI (tx i)))), (mLe, .inl (cI, 217, .inl (fun i => nI (le i)))), (mSz, .inl (cI, 31, .inl (fun i => nI (sz i)))), (mFu, .inl (cI, 420, .inl (fun i => nI (gu i)))), (mFv, .inl (cI, 420, .inl (fun i => nI (gv i))))] rfl rfl [hM] rfl rfl [some 0] rfl rfl (rest := []) rfl (Nat.le_of_ble_eq_true rfl) dX7_scan_6 ⟨Nat.zero_le _, Nat.zero_le _⟩ ?_
  refine V_istore_n x 1 [(1, .int (nI ty)), (0, .ref hM)] dX7_scan_9 rfl (by decide) rfl ?_
  refine V_aload_n x 0 dX7_scan_10 rfl rfl ?_
  refine V_iconst (v := nI 0) x dX7_scan_11 (by decide +kernel) ?_
  refine V_put (ty := .int) x 0 7 12 [(hM, .inr (7, [.int (nI 0), .int (nI 0), .ref mTx, .int (nI wr), .ref mPg, .int (nI cn), .ref mLe, .ref mSz, .int (nI pf), .ref mLo, .ref mHi, .ref mDp, .int (nI 0), .ref mFu, .ref mFv, .ref mRw, .ref mBl, .ref mWy, .ref mFe])), (mTx, .inl (cI, 60, .inl (fun i => nI (tx i)))), (mLe, .inl (cI, 217, .inl (fun i => nI (le i)))), (mSz, .inl (cI, 31, .inl (fun i => nI (sz i)))), (mFu, .inl (cI, 420, .inl (fun i => nI (gu i)))), (mFv, .inl (cI, 420, .inl (fun i => nI (gv i))))] hinX7 tyX7 tyX7_ok nmX7 rfl rfl (by decide) flX7_84 rfl (by decide +kernel) rfl rfl (Nat.le_of_ble_eq_true rfl) rfl dX7_scan_12 ?_
  refine V_iconst (v := nI 1) x dX7_scan_15 (by decide +kernel) ?_
  refine V_istore_n x 2 [(2, .int (nI 1)), (1, .int (nI ty)), (0, .ref hM)] dX7_scan_16 rfl (by decide) rfl ?_
  have L17 : ∀ (k17 : Nat) (k : Nat) (gu1 : Nat → Nat) (gv1 : Nat → Nat) (mn1 : Nat) (hk : k ≤ ty) (hm1 : mn1 ≤ 7 * k) (e1 : mso tx le sz cn gu gv k = (gu1, gv1, mn1)) (hk17 : ty - k = k17), V κ 0 0 [(hM, .inr (7, [.int (nI 0), .int (nI 0), .ref mTx, .int (nI wr), .ref mPg, .int (nI cn), .ref mLe, .ref mSz, .int (nI pf), .ref mLo, .ref mHi, .ref mDp, .int (nI mn1), .ref mFu, .ref mFv, .ref mRw, .ref mBl, .ref mWy, .ref mFe])), (mTx, .inl (cI, 60, .inl (fun i => nI (tx i)))), (mLe, .inl (cI, 217, .inl (fun i => nI (le i)))), (mSz, .inl (cI, 31, .inl (fun i => nI (sz i)))), (mFu, .inl (cI, 420, .inl (fun i => nI (gu1 i)))), (mFv, .inl (cI, 420, .inl (fun i => nI (gv1 i))))] 17 [(0, .ref hM), (1, .int (nI ty)), (2, .int (nI (k + 1)))] [] := by
    intro k17
    induction k17 using Nat.strongRecOn with
    | ind k17 ih17 =>
      intro k gu1 gv1 mn1 hk hm1 e1 hk17
      refine V_iload_n x 2 dX7_scan_17 rfl rfl ?_
      refine V_iload_n x 1 dX7_scan_18 rfl rfl ?_
      refine V_icmp_gtN x 72 dX7_scan_19 rfl (fun t19 => ?_) (fun f19 => ?_)
      · skip
        refine V_aload_n x 0 dX7_scan_72 rfl rfl ?_
        refine V_get x 0 7 12 hinX7 rfl rfl (by decide) flX7_84 rfl dX7_scan_73 ?_
        obtain rfl : k = ty := by omega
        rw [e1] at hret
        exact hret _ _ dX7_scan_76
      · skip
        refine V_bipush (v := nI 7) x dX7_scan_22 (by decide +kernel) ?_
        refine V_istore_n x 3 [(3, .int (nI 7)), (0, .ref hM), (1, .int (nI ty)), (2, .int (nI (k + 1)))] dX7_scan_24 rfl (by decide) rfl ?_
        have L25 : ∀ (k25 : Nat) (j : Nat) (gu2 : Nat → Nat) (gv2 : Nat → Nat) (mn2 : Nat) (hj : j ≤ 7) (hm2 : mn2 ≤ 7 * k + j) (e2 : msI tx le sz cn (k + 1) (gu1, gv1, mn1) j = (gu2, gv2, mn2)) (hk25 : 7 - j = k25), V κ 0 0 [(hM, .inr (7, [.int (nI 0), .int (nI 0), .ref mTx, .int (nI wr), .ref mPg, .int (nI cn), .ref mLe, .ref mSz, .int (nI pf), .ref mLo, .ref mHi, .ref mDp, .int (nI mn2), .ref mFu, .ref mFv, .ref mRw, .ref mBl, .ref mWy, .ref mFe])), (mTx, .inl (cI, 60, .inl (fun i => nI (tx i)))), (mLe, .inl (cI, 217, .inl (fun i => nI (le i)))), (mSz, .inl (cI, 31, .inl (fun i => nI (sz i)))), (mFu, .inl (cI, 420, .inl (fun i => nI (gu2 i)))), (mFv, .inl (cI, 420, .inl (fun i => nI (gv2 i))))] 25 [(0, .ref hM), (1, .int (nI ty)), (2, .int (nI (k + 1))), (3, .int (nI (7 - j)))] [] := by
          intro k25
          induction k25 using Nat.strongRecOn with
          | ind k25 ih25 =>
            intro j gu2 gv2 mn2 hj hm2 e2 hk25
            refine V_iload_n x 3 dX7_scan_25 rfl rfl ?_
            refine V_if_leN x 66 dX7_scan_26 rfl (fun t26 => ?_) (fun f26 => ?_)
            · skip
              refine V_iinc x 2 2 [(2, .int (nI ((k + 1) + 1))), (0, .ref hM), (1, .int (nI ty)), (3, .int (nI (7 - j)))] dX7_scan_66 rfl (iinc_1 _) (by decide) rfl ?_
              refine V_goto x 17 dX7_scan_69 rfl ?_
              refine V.sub [1, 2, 0] (lv' := [(0, .ref hM), (1, .int (nI ty)), (2, .int (nI ((k + 1) + 1)))]) rfl ?_
              exact ih17 (ty - (k + 1)) (by omega) (k + 1) gu2 gv2 mn2 (by omega) (by omega) (by rw [mso, e1, ← show j = 7 by omega, e2]) rfl
            · skip
              refine V_iload_n x 3 dX7_scan_29 rfl rfl ?_
              refine V_iload_n x 2 dX7_scan_30 rfl rfl ?_
              have J46 : V κ 0 0 [(hM, .inr (7, [.int (nI 0), .int (nI 0), .ref mTx, .int (nI wr), .ref mPg, .int (nI cn), .ref mLe, .ref mSz, .int (nI pf), .ref mLo, .ref mHi, .ref mDp, .int (nI mn2), .ref mFu, .ref mFv, .ref mRw, .ref mBl, .ref mWy, .ref mFe])), (mTx, .inl (cI, 60, .inl (fun i => nI (tx i)))), (mLe, .inl (cI, 217, .inl (fun i => nI (le i)))), (mSz, .inl (cI, 31, .inl (fun i => nI (sz i)))), (mFu, .inl (cI, 420, .inl (fun i => nI (gu2 i)))), (mFv, .inl (cI, 420, .inl (fun i => nI (gv2 i))))] 46 [(0, .ref hM), (1, .int (nI ty)), (2, .int (nI (k + 1))), (3, .int (nI (7 - j)))] [.int (oN (msK tx le sz cn (k + 1) j))] := by
                refine V_istore x 4 [(4, .int (oN (msK tx le sz cn (k + 1) j))), (0, .ref hM), (1, .int (nI ty)), (2, .int (nI (k + 1))), (3, .int (nI (7 - j)))] dX7_scan_46 (by decide) rfl ?_
                refine V_iload x 4 dX7_scan_48 rfl ?_
                refine V_if_ltO x 60 dX7_scan_50 rfl (fun z hz => by have := msK_lt hz; omega) (fun t50 => ?_) (fun z50 f50 => ?_)
                · skip
                  simp only [t50, oN_none]
                  refine V_iinc x 3 4 [(3, .int (nI (7 - (j + 1)))), (4, .int (-1)), (0, .ref hM), (1, .int (nI ty)), (2, .int (nI (k + 1)))] dX7_scan_60 rfl (by rw [iinc_m1 (by omega)]; rfl) (by decide) rfl ?_
                  refine V_goto x 25 dX7_scan_63 rfl ?_
                  refine V.sub [2, 3, 4, 0] (lv' := [(0, .ref hM), (1, .int (nI ty)), (2, .int (nI (k + 1))), (3, .int (nI (7 - (j + 1))))]) rfl ?_
                  exact ih25 (7 - (j + 1)) (by omega) (j + 1) gu2 gv2 mn2 (by omega) (by omega) (by rw [msI, e2]; first | (rw [t50]; done) | (rw [f50])) rfl
                · skip
                  simp only [f50, oN_some]
                  refine V_aload_n x 0 dX7_scan_53 rfl rfl ?_
                  refine V_iload x 4 dX7_scan_54 rfl ?_
                  refine V_iload_n x 2 dX7_scan_56 rfl rfl ?_
                  refine V_callVv x (m_note l D cI cZ cC cJ hM mTx mPg mLe mSz mLo mHi mDp mFu mFv mRw mBl mWy mFe 0 0 wr cn pf mn2 gu2 gv2 z50 (k + 1) (by first | omega | assumption)) 2 (gdV mlX7_123 imX7_note seX7_note inX7 coX7_note) rfl hdX7_note ⟨Nat.le_of_ble_eq_true rfl, Nat.le_of_ble_eq_true rfl⟩ ⟨rfl, rfl⟩ 0 rfl rfl rfl [0, 4, 5] [(hM, .inr (7, [.int (nI 0), .int (nI 0), .ref mTx, .int (nI wr), .ref mPg, .int (nI cn), .ref mLe, .ref mSz, .int (nI pf), .ref mLo, .ref mHi, .ref mDp, .int (nI (mn2 + 1)), .ref mFu, .ref mFv, .ref mRw, .ref mBl, .ref mWy, .ref mFe])), (mTx, .inl (cI, 60, .inl (fun i => nI (tx i)))), (mLe, .inl (cI, 217, .inl (fun i => nI (le i)))), (mSz, .inl (cI, 31, .inl (fun i => nI (sz i)))), (mFu, .inl (cI, 420, .inl (fun i => nI ((va_up gu2 mn2 z50) i)))), (mFv, .inl (cI, 420, .inl (fun i => nI ((va_up gv2 mn2 (k + 1)) i))))] rfl rfl [hM, mFu, mFv] rfl rfl [some 0, none, none, none, some 1, some 2] rfl rfl (rest := []) rfl (Nat.le_of_ble_eq_true rfl) dX7_scan_57 ⟨Nat.zero_le _, Nat.zero_le _⟩ ?_
                  refine V_iinc x 3 4 [(3, .int (nI (7 - (j + 1)))), (4, .int (nI z50)), (0, .ref hM), (1, .int (nI ty)), (2, .int (nI (k + 1)))] dX7_scan_60 rfl (by rw [iinc_m1 (by omega)]; rfl) (by decide) rfl ?_
                  refine V_goto x 25 dX7_scan_63 rfl ?_
                  refine V.sub [2, 3, 4, 0] (lv' := [(0, .ref hM), (1, .int (nI ty)), (2, .int (nI (k + 1))), (3, .int (nI (7 - (j + 1))))]) rfl ?_
                  exact ih25 (7 - (j + 1)) (by omega) (j + 1) (va_up gu2 mn2 z50) (va_up gv2 mn2 (k + 1)) (mn2 + 1) (by omega) (by omega) (by rw [msI, e2]; first | (rw [t50]; done) | (rw [f50])) rfl
              refine V_icmp_gtN x 45 dX7_scan_31 rfl (fun t31 => ?_) (fun f31 => ?_)
              · skip
                refine V_iconst (v := (-1)) x dX7_scan_45 (by decide +kernel) ?_
                refine V.ci (x' := oN (msK tx le sz cn (k + 1) j)) (by unfold msK; first | (rw [if_pos (by omega)]; done) | (rw [if_neg (by omega)]; rfl)) ?_
                exact J46
              · skip
                refine V_aload_n x 0 dX7_scan_34 rfl rfl ?_
                refine V_iload_n x 2 dX7_scan_35 rfl rfl ?_
                refine V_iload_n x 3 dX7_scan_36 rfl rfl ?_
                refine V_isub x (nI ((k + 1) - (7 - j))) dX7_scan_37 (pk_sub (by omega)) ?_
                refine V_iload_n x 3 dX7_scan_38 rfl rfl ?_
                refine V_callVi x (m_numberOf l D cI cZ cC cJ hM mTx mPg mLe mSz mLo mHi mDp mFu mFv mRw mBl mWy mFe 0 0 wr cn pf mn2 tx le sz ((k + 1) - (7 - j)) (7 - j) (by first | omega | assumption) (by first | omega | assumption) (by first | omega | assumption) (by first | omega | assumption) (by first | omega | assumption)) 2 (gdV mlX7_76 imX7_numberOf seX7_numberOf inX7 coX7_numberOf) rfl hdX7_numberOf ⟨Nat.le_of_ble_eq_true rfl, Nat.le_of_ble_eq_true rfl⟩ ⟨rfl, rfl⟩ 0 rfl rfl rfl [0, 1, 2, 3] [(hM, .inr (7, [.int (nI 0), .int (nI 0), .ref mTx, .int (nI wr), .ref mPg, .int (nI cn), .ref mLe, .ref mSz, .int (nI pf), .ref mLo, .ref mHi, .ref mDp, .int (nI mn2), .ref mFu, .ref mFv, .ref mRw, .ref mBl, .ref mWy, .ref mFe])), (mTx, .inl (cI, 60, .inl (fun i => nI (tx i)))), (mLe, .inl (cI, 217, .inl (fun i => nI (le i)))), (mSz, .inl (cI, 31, .inl (fun i => nI (sz i)))), (mFu, .inl (cI, 420, .inl (fun i => nI (gu2 i)))), (mFv, .inl (cI, 420, .inl (fun i => nI (gv2 i))))] rfl rfl [hM, mTx, mLe, mSz] rfl rfl [some 0, some 1, some 2, some 3] rfl rfl (rest := []) rfl (Nat.le_of_ble_eq_true rfl) dX7_scan_39 ⟨Nat.zero_le _, Nat.zero_le _⟩ ?_
                refine V_goto x 46 dX7_scan_42 rfl ?_
                refine V.ci (x' := oN (msK tx le sz cn (k + 1) j)) (by unfold msK; first | (rw [if_pos (by omega)]; done) | (rw [if_neg (by omega)]; rfl)) ?_
                exact J46
        refine V.sub [1, 2, 3, 0] (lv' := [(0, .ref hM), (1, .int (nI ty)), (2, .int (nI (k + 1))), (3, .int (nI (7 - 0)))]) rfl ?_
        exact L25 _ 0 gu1 gv1 mn1 (by omega) (by omega) rfl rfl
  refine V.sub [2, 1, 0] (lv' := [(0, .ref hM), (1, .int (nI ty)), (2, .int (nI (0 + 1)))]) rfl ?_
  exact L17 _ 0 gu gv 0 (by omega) (by omega) rfl rfl
set_option maxHeartbeats 4000000 in
set_option maxRecDepth 100000 in
theorem m_splits (l : Launch) (D : va_G) (cI cZ cC cJ : ClassId) (hM mTx mPg mLe mSz mLo mHi mDp mFu mFv mRw mBl mWy mFe : Nat) (ft : Nat) (ty : Nat) (wr : Nat) (cn : Nat) (pf : Nat) (mn : Nat) (tx : Nat → Nat) (le : Nat → Nat) (sz : Nat → Nat) (wy : Nat → Int64) (hty : ty ≤ 60) (hcn : cn ≤ 30) (htx : ∀ i, tx i < 65536) (hle : ∀ i, le i ≤ 8) (hsz : ∀ i, sz i ≤ 7) : CL l yX7_splits wsX7_splits { frames := 3, cells := 0, slots := 0, locals := 70 } D vwCl (tys4 cI cZ cC cJ) [.ref hM] [(hM, .inr (7, [.int (nI ft), .int (nI ty), .ref mTx, .int (nI wr), .ref mPg, .int (nI cn), .ref mLe, .ref mSz, .int (nI pf), .ref mLo, .ref mHi, .ref mDp, .int (nI mn), .ref mFu, .ref mFv, .ref mRw, .ref mBl, .ref mWy, .ref mFe])), (mTx, .inl (cI, 60, .inl (fun i => nI (tx i)))), (mLe, .inl (cI, 217, .inl (fun i => nI (le i)))), (mSz, .inl (cI, 31, .inl (fun i => nI (sz i)))), (mWy, .inl (cJ, 61, .inr (.inl wy)))] ((msp tx le sz cn wy ty ty)) [(hM, .inr (7, [.int (nI 0), .int (nI 0), .ref mTx, .int (nI wr), .ref mPg, .int (nI cn), .ref mLe, .ref mSz, .int (nI pf), .ref mLo, .ref mHi, .ref mDp, .int (nI mn), .ref mFu, .ref mFv, .ref mRw, .ref mBl, .ref mWy, .ref mFe])), (mTx, .inl (cI, 60, .inl (fun i => nI (tx i)))), (mLe, .inl (cI, 217, .inl (fun i => nI (le i)))), (mSz, .inl (cI, 31, .inl (fun i => nI (sz i)))), (mWy, .inl (cJ, 61, .inr (.inl (msp tx le sz cn wy ty))))] := by
  refine CL.ofV (by decide +kernel) rfl (Nat.le_of_ble_eq_true rfl) ?_
  intro κ x hret
  refine V_aload_n x 0 dX7_splits_0 rfl rfl ?_
  refine V_iconst (v := nI 0) x dX7_splits_1 (by decide +kernel) ?_
  refine V_put (ty := .int) x 0 7 0 [(hM, .inr (7, [.int (nI 0), .int (nI ty), .ref mTx, .int (nI wr), .ref mPg, .int (nI cn), .ref mLe, .ref mSz, .int (nI pf), .ref mLo, .ref mHi, .ref mDp, .int (nI mn), .ref mFu, .ref mFv, .ref mRw, .ref mBl, .ref mWy, .ref mFe])), (mTx, .inl (cI, 60, .inl (fun i => nI (tx i)))), (mLe, .inl (cI, 217, .inl (fun i => nI (le i)))), (mSz, .inl (cI, 31, .inl (fun i => nI (sz i)))), (mWy, .inl (cJ, 61, .inr (.inl wy)))] hinX7 tyX7 tyX7_ok nmX7 rfl rfl (by decide) flX7_50 rfl (by decide +kernel) rfl rfl (Nat.le_of_ble_eq_true rfl) rfl dX7_splits_2 ?_
  refine V_aload_n x 0 dX7_splits_5 rfl rfl ?_
  refine V_callVi x (m_take l D cI cZ cC cJ hM mTx mPg mLe mSz mLo mHi mDp mFu mFv mRw mBl mWy mFe 0 ty wr cn pf mn ) 0 (gdV mlX7_57 imX7_take seX7_take inX7 coX7_take) rfl hdX7_take ⟨Nat.le_of_ble_eq_true rfl, Nat.le_of_ble_eq_true rfl⟩ ⟨rfl, rfl⟩ 0 rfl rfl rfl [0] [(hM, .inr (7, [.int (nI 0), .int (nI 0), .ref mTx, .int (nI wr), .ref mPg, .int (nI cn), .ref mLe, .ref mSz, .int (nI pf), .ref mLo, .ref mHi, .ref mDp, .int (nI mn), .ref mFu, .ref mFv, .ref mRw, .ref mBl, .ref mWy, .ref mFe])), (mTx, .inl (cI, 60, .inl (fun i => nI (tx i)))), (mLe, .inl (cI, 217, .inl (fun i => nI (le i)))), (mSz, .inl (cI, 31, .inl (fun i => nI (sz i)))), (mWy, .inl (cJ, 61, .inr (.inl wy)))] rfl rfl [hM] rfl rfl [some 0] rfl rfl (rest := []) rfl (Nat.le_of_ble_eq_true rfl) dX7_splits_6 ⟨Nat.zero_le _, Nat.zero_le _⟩ ?_
  refine V_istore_n x 1 [(1, .int (nI ty)), (0, .ref hM)] dX7_splits_9 rfl (by decide) rfl ?_
  refine V_aload_n x 0 dX7_splits_10 rfl rfl ?_
  refine V_get x 0 7 17 hinX7 rfl rfl (by decide) flX7_43 rfl dX7_splits_11 ?_
  refine V_iconst (v := nI 0) x dX7_splits_14 (by decide +kernel) ?_
  refine V_lconst (v := 1) x dX7_splits_15 (by decide +kernel) ?_
  refine V_last x 4 3 wy 1 [(hM, .inr (7, [.int (nI 0), .int (nI 0), .ref mTx, .int (nI wr), .ref mPg, .int (nI cn), .ref mLe, .ref mSz, .int (nI pf), .ref mLo, .ref mHi, .ref mDp, .int (nI mn), .ref mFu, .ref mFv, .ref mRw, .ref mBl, .ref mWy, .ref mFe])), (mTx, .inl (cI, 60, .inl (fun i => nI (tx i)))), (mLe, .inl (cI, 217, .inl (fun i => nI (le i)))), (mSz, .inl (cI, 31, .inl (fun i => nI (sz i)))), (mWy, .inl (cJ, 61, .inr (.inl (va_up wy 0 1))))] rfl rfl dX7_splits_16 (by omega) (by omega) rfl ?_
  refine V_iconst (v := nI 1) x dX7_splits_17 (by decide +kernel) ?_
  refine V_istore_n x 2 [(2, .int (nI 1)), (1, .int (nI ty)), (0, .ref hM)] dX7_splits_18 rfl (by decide) rfl ?_
  have L19 : ∀ (k19 : Nat) (k : Nat) (w1 : Nat → Int64) (hk : k ≤ ty) (e1 : msp tx le sz cn wy k = w1) (hk19 : ty - k = k19), V κ 0 0 [(hM, .inr (7, [.int (nI 0), .int (nI 0), .ref mTx, .int (nI wr), .ref mPg, .int (nI cn), .ref mLe, .ref mSz, .int (nI pf), .ref mLo, .ref mHi, .ref mDp, .int (nI mn), .ref mFu, .ref mFv, .ref mRw, .ref mBl, .ref mWy, .ref mFe])), (mTx, .inl (cI, 60, .inl (fun i => nI (tx i)))), (mLe, .inl (cI, 217, .inl (fun i => nI (le i)))), (mSz, .inl (cI, 31, .inl (fun i => nI (sz i)))), (mWy, .inl (cJ, 61, .inr (.inl w1)))] 19 [(0, .ref hM), (1, .int (nI ty)), (2, .int (nI (k + 1)))] [] := by
    intro k19
    induction k19 using Nat.strongRecOn with
    | ind k19 ih19 =>
      intro k w1 hk e1 hk19
      refine V_iload_n x 2 dX7_splits_19 rfl rfl ?_
      refine V_iload_n x 1 dX7_splits_20 rfl rfl ?_
      refine V_icmp_gtN x 97 dX7_splits_21 rfl (fun t21 => ?_) (fun f21 => ?_)
      · skip
        refine V_aload_n x 0 dX7_splits_97 rfl rfl ?_
        refine V_get x 0 7 17 hinX7 rfl rfl (by decide) flX7_43 rfl dX7_splits_98 ?_
        refine V_iload_n x 1 dX7_splits_101 rfl rfl ?_
        refine V_lald x 4 3 rfl rfl dX7_splits_102 (by omega) (by omega) ?_
        obtain rfl : k = ty := by omega
        rw [e1] at hret
        exact hret _ _ dX7_splits_103
      · skip
        refine V_aload_n x 0 dX7_splits_24 rfl rfl ?_
        refine V_get x 0 7 17 hinX7 rfl rfl (by decide) flX7_43 rfl dX7_splits_25 ?_
        refine V_iload_n x 2 dX7_splits_28 rfl rfl ?_
        refine V_lconst (v := 0) x dX7_splits_29 (by decide +kernel) ?_
        refine V_last x 4 3 w1 0 [(hM, .inr (7, [.int (nI 0), .int (nI 0), .ref mTx, .int (nI wr), .ref mPg, .int (nI cn), .ref mLe, .ref mSz, .int (nI pf), .ref mLo, .ref mHi, .ref mDp, .int (nI mn), .ref mFu, .ref mFv, .ref mRw, .ref mBl, .ref mWy, .ref mFe])), (mTx, .inl (cI, 60, .inl (fun i => nI (tx i)))), (mLe, .inl (cI, 217, .inl (fun i => nI (le i)))), (mSz, .inl (cI, 31, .inl (fun i => nI (sz i)))), (mWy, .inl (cJ, 61, .inr (.inl (va_up w1 (k + 1) 0))))] rfl rfl dX7_splits_30 (by omega) (by omega) rfl ?_
        refine V_iconst (v := nI 1) x dX7_splits_31 (by decide +kernel) ?_
        refine V_istore_n x 3 [(3, .int (nI 1)), (0, .ref hM), (1, .int (nI ty)), (2, .int (nI (k + 1)))] dX7_splits_32 rfl (by decide) rfl ?_
        have L33 : ∀ (k33 : Nat) (j : Nat) (w2 : Nat → Int64) (hj : j ≤ 7 ∧ j ≤ k + 1) (e2 : msW tx le sz cn (k + 1) w1 j = w2) (hk33 : 7 - j = k33), V κ 0 0 [(hM, .inr (7, [.int (nI 0), .int (nI 0), .ref mTx, .int (nI wr), .ref mPg, .int (nI cn), .ref mLe, .ref mSz, .int (nI pf), .ref mLo, .ref mHi, .ref mDp, .int (nI mn), .ref mFu, .ref mFv, .ref mRw, .ref mBl, .ref mWy, .ref mFe])), (mTx, .inl (cI, 60, .inl (fun i => nI (tx i)))), (mLe, .inl (cI, 217, .inl (fun i => nI (le i)))), (mSz, .inl (cI, 31, .inl (fun i => nI (sz i)))), (mWy, .inl (cJ, 61, .inr (.inl w2)))] 33 [(0, .ref hM), (1, .int (nI ty)), (2, .int (nI (k + 1))), (3, .int (nI (j + 1)))] [] := by
          intro k33
          induction k33 using Nat.strongRecOn with
          | ind k33 ih33 =>
            intro j w2 hj e2 hk33
            refine V_iload_n x 3 dX7_splits_33 rfl rfl ?_
            refine V_bipush (v := nI 7) x dX7_splits_34 (by decide +kernel) ?_
            refine V_icmp_gtN x 91 dX7_splits_36 rfl (fun t36 => ?_) (fun f36 => ?_)
            · skip
              refine V_iinc x 2 2 [(2, .int (nI ((k + 1) + 1))), (0, .ref hM), (1, .int (nI ty)), (3, .int (nI (j + 1)))] dX7_splits_91 rfl (iinc_1 _) (by decide) rfl ?_
              refine V_goto x 19 dX7_splits_94 rfl ?_
              refine V.sub [1, 2, 0] (lv' := [(0, .ref hM), (1, .int (nI ty)), (2, .int (nI ((k + 1) + 1)))]) rfl ?_
              exact ih19 (ty - (k + 1)) (by omega) (k + 1) w2 (by omega) (by rw [msp, e1, ← show j = min 7 (k + 1) by omega, e2]) rfl
            · skip
              refine V_iload_n x 3 dX7_splits_39 rfl rfl ?_
              refine V_iload_n x 2 dX7_splits_40 rfl rfl ?_
              refine V_icmp_gtN x 91 dX7_splits_41 rfl (fun t41 => ?_) (fun f41 => ?_)
              · skip
                refine V_iinc x 2 2 [(2, .int (nI ((k + 1) + 1))), (0, .ref hM), (1, .int (nI ty)), (3, .int (nI (j + 1)))] dX7_splits_91 rfl (iinc_1 _) (by decide) rfl ?_
                refine V_goto x 19 dX7_splits_94 rfl ?_
                refine V.sub [1, 2, 0] (lv' := [(0, .ref hM), (1, .int (nI ty)), (2, .int (nI ((k + 1) + 1)))]) rfl ?_
                exact ih19 (ty - (k + 1)) (by omega) (k + 1) w2 (by omega) (by rw [msp, e1, ← show j = min 7 (k + 1) by omega, e2]) rfl
              · skip
                refine V_aload_n x 0 dX7_splits_44 rfl rfl ?_
                refine V_get x 0 7 17 hinX7 rfl rfl (by decide) flX7_43 rfl dX7_splits_45 ?_
                refine V_iload_n x 2 dX7_splits_48 rfl rfl ?_
                refine V_aload_n x 0 dX7_splits_49 rfl rfl ?_
                refine V_iload_n x 2 dX7_splits_50 rfl rfl ?_
                refine V_iload_n x 3 dX7_splits_51 rfl rfl ?_
                refine V_isub x (nI ((k + 1) - (j + 1))) dX7_splits_52 (pk_sub (by omega)) ?_
                refine V_iload_n x 3 dX7_splits_53 rfl rfl ?_
                refine V_callVi x (m_numberOf l D cI cZ cC cJ hM mTx mPg mLe mSz mLo mHi mDp mFu mFv mRw mBl mWy mFe 0 0 wr cn pf mn tx le sz ((k + 1) - (j + 1)) (j + 1) (by first | omega | assumption) (by first | omega | assumption) (by first | omega | assumption) (by first | omega | assumption) (by first | omega | assumption)) 2 (gdV mlX7_76 imX7_numberOf seX7_numberOf inX7 coX7_numberOf) rfl hdX7_numberOf ⟨Nat.le_of_ble_eq_true rfl, Nat.le_of_ble_eq_true rfl⟩ ⟨rfl, rfl⟩ 0 rfl rfl rfl [0, 1, 2, 3] [(hM, .inr (7, [.int (nI 0), .int (nI 0), .ref mTx, .int (nI wr), .ref mPg, .int (nI cn), .ref mLe, .ref mSz, .int (nI pf), .ref mLo, .ref mHi, .ref mDp, .int (nI mn), .ref mFu, .ref mFv, .ref mRw, .ref mBl, .ref mWy, .ref mFe])), (mTx, .inl (cI, 60, .inl (fun i => nI (tx i)))), (mLe, .inl (cI, 217, .inl (fun i => nI (le i)))), (mSz, .inl (cI, 31, .inl (fun i => nI (sz i)))), (mWy, .inl (cJ, 61, .inr (.inl w2)))] rfl rfl [hM, mTx, mLe, mSz] rfl rfl [some 0, some 1, some 2, some 3] rfl rfl (rest := [.int (nI (k + 1)), .ref mWy]) rfl (Nat.le_of_ble_eq_true rfl) dX7_splits_54 ⟨Nat.zero_le _, Nat.zero_le _⟩ ?_
                have J84 : V κ 0 0 [(hM, .inr (7, [.int (nI 0), .int (nI 0), .ref mTx, .int (nI wr), .ref mPg, .int (nI cn), .ref mLe, .ref mSz, .int (nI pf), .ref mLo, .ref mHi, .ref mDp, .int (nI mn), .ref mFu, .ref mFv, .ref mRw, .ref mBl, .ref mWy, .ref mFe])), (mTx, .inl (cI, 60, .inl (fun i => nI (tx i)))), (mLe, .inl (cI, 217, .inl (fun i => nI (le i)))), (mSz, .inl (cI, 31, .inl (fun i => nI (sz i)))), (mWy, .inl (cJ, 61, .inr (.inl w2)))] 84 [(0, .ref hM), (1, .int (nI ty)), (2, .int (nI (k + 1))), (3, .int (nI (j + 1)))] [.long (oselL (mnb tx le sz cn (k + 1 - (j + 1)) (j + 1)) (w2 (k + 1) + w2 (k + 1 - (j + 1))) (w2 (k + 1))), .int (nI (k + 1)), .ref mWy] := by
                  refine V_last x 4 3 w2 (oselL (mnb tx le sz cn (k + 1 - (j + 1)) (j + 1)) (w2 (k + 1) + w2 (k + 1 - (j + 1))) (w2 (k + 1))) [(hM, .inr (7, [.int (nI 0), .int (nI 0), .ref mTx, .int (nI wr), .ref mPg, .int (nI cn), .ref mLe, .ref mSz, .int (nI pf), .ref mLo, .ref mHi, .ref mDp, .int (nI mn), .ref mFu, .ref mFv, .ref mRw, .ref mBl, .ref mWy, .ref mFe])), (mTx, .inl (cI, 60, .inl (fun i => nI (tx i)))), (mLe, .inl (cI, 217, .inl (fun i => nI (le i)))), (mSz, .inl (cI, 31, .inl (fun i => nI (sz i)))), (mWy, .inl (cJ, 61, .inr (.inl (va_up w2 (k + 1) (oselL (mnb tx le sz cn (k + 1 - (j + 1)) (j + 1)) (w2 (k + 1) + w2 (k + 1 - (j + 1))) (w2 (k + 1)))))))] rfl rfl dX7_splits_84 (by omega) (by omega) rfl ?_
                  refine V_iinc x 3 3 [(3, .int (nI ((j + 1) + 1))), (0, .ref hM), (1, .int (nI ty)), (2, .int (nI (k + 1)))] dX7_splits_85 rfl (iinc_1 _) (by decide) rfl ?_
                  refine V_goto x 33 dX7_splits_88 rfl ?_
                  refine V.sub [1, 2, 3, 0] (lv' := [(0, .ref hM), (1, .int (nI ty)), (2, .int (nI (k + 1))), (3, .int (nI ((j + 1) + 1)))]) rfl ?_
                  exact ih33 (7 - (j + 1)) (by omega) (j + 1) (va_up w2 (k + 1) (oselL (mnb tx le sz cn (k + 1 - (j + 1)) (j + 1)) (w2 (k + 1) + w2 (k + 1 - (j + 1))) (w2 (k + 1)))) (by omega) (by rw [msW, e2]) rfl
                refine V_if_ltO x 78 dX7_splits_57 rfl (fun z hz => by have := mnb_lt hz; omega) (fun t57 => ?_) (fun z57 f57 => ?_)
                · skip
                  refine V_aload_n x 0 dX7_splits_78 rfl rfl ?_
                  refine V_get x 0 7 17 hinX7 rfl rfl (by decide) flX7_43 rfl dX7_splits_79 ?_
                  refine V_iload_n x 2 dX7_splits_82 rfl rfl ?_
                  refine V_lald x 4 3 rfl rfl dX7_splits_83 (by omega) (by omega) ?_
                  refine V.cj (x' := oselL (mnb tx le sz cn (k + 1 - (j + 1)) (j + 1)) (w2 (k + 1) + w2 (k + 1 - (j + 1))) (w2 (k + 1))) (by first | (rw [t57]; rfl) | (rw [f57]; rfl)) ?_
                  exact J84
                · skip
                  refine V_aload_n x 0 dX7_splits_60 rfl rfl ?_
                  refine V_get x 0 7 17 hinX7 rfl rfl (by decide) flX7_43 rfl dX7_splits_61 ?_
                  refine V_iload_n x 2 dX7_splits_64 rfl rfl ?_
                  refine V_lald x 4 3 rfl rfl dX7_splits_65 (by omega) (by omega) ?_
                  refine V_aload_n x 0 dX7_splits_66 rfl rfl ?_
                  refine V_get x 0 7 17 hinX7 rfl rfl (by decide) flX7_43 rfl dX7_splits_67 ?_
                  refine V_iload_n x 2 dX7_splits_70 rfl rfl ?_
                  refine V_iload_n x 3 dX7_splits_71 rfl rfl ?_
                  refine V_isub x (nI ((k + 1) - (j + 1))) dX7_splits_72 (pk_sub (by omega)) ?_
                  refine V_lald x 4 3 rfl rfl dX7_splits_73 (by omega) (by omega) ?_
                  refine V_ladd x ((w2 (k + 1)) + (w2 ((k + 1) - (j + 1)))) dX7_splits_74 rfl ?_
                  refine V_goto x 84 dX7_splits_75 rfl ?_
                  refine V.cj (x' := oselL (mnb tx le sz cn (k + 1 - (j + 1)) (j + 1)) (w2 (k + 1) + w2 (k + 1 - (j + 1))) (w2 (k + 1))) (by first | (rw [t57]; rfl) | (rw [f57]; rfl)) ?_
                  exact J84
        refine V.sub [1, 2, 3, 0] (lv' := [(0, .ref hM), (1, .int (nI ty)), (2, .int (nI (k + 1))), (3, .int (nI (0 + 1)))]) rfl ?_
        exact L33 _ 0 (va_up w1 (k + 1) 0) (by omega) rfl rfl
  refine V.sub [2, 1, 0] (lv' := [(0, .ref hM), (1, .int (nI ty)), (2, .int (nI (0 + 1)))]) rfl ?_
  exact L19 _ 0 (va_up wy 0 1) (by omega) rfl rfl
set_option maxHeartbeats 4000000 in
set_option maxRecDepth 100000 in
theorem m_distance (l : Launch) (D : va_G) (cI cZ cC cJ : ClassId) (hM mTx mPg mLe mSz mLo mHi mDp mFu mFv mRw mBl mWy mFe : Nat) (ft : Nat) (ty : Nat) (wr : Nat) (cn : Nat) (pf : Nat) (mn : Nat) (tx : Nat → Nat) (le : Nat → Nat) (sz : Nat → Nat) (ro : Nat → Nat) (bl : Nat → Nat) (w : Nat) (n : Nat) (hw : w < 31) (hn : n ≤ 60) (htx : ∀ i, tx i < 65536) (hle : ∀ i, le i ≤ 8) (hsz : ∀ i, sz i ≤ 7) : CI l yX7_distance wsX7_distance { frames := 1, cells := 0, slots := 0, locals := 21 } D vwCl (tys4 cI cZ cC cJ) [.ref hM, .int (nI w), .int (nI n)] [(hM, .inr (7, [.int (nI ft), .int (nI ty), .ref mTx, .int (nI wr), .ref mPg, .int (nI cn), .ref mLe, .ref mSz, .int (nI pf), .ref mLo, .ref mHi, .ref mDp, .int (nI mn), .ref mFu, .ref mFv, .ref mRw, .ref mBl, .ref mWy, .ref mFe])), (mTx, .inl (cI, 60, .inl (fun i => nI (tx i)))), (mLe, .inl (cI, 217, .inl (fun i => nI (le i)))), (mSz, .inl (cI, 31, .inl (fun i => nI (sz i)))), (mRw, .inl (cI, 61, .inl (fun i => nI (ro i)))), (mBl, .inl (cI, 61, .inl (fun i => nI (bl i))))] ((nI ((mdO tx le w n ro bl (sz w)).1 n))) [(hM, .inr (7, [.int (nI ft), .int (nI ty), .ref mTx, .int (nI wr), .ref mPg, .int (nI cn), .ref mLe, .ref mSz, .int (nI pf), .ref mLo, .ref mHi, .ref mDp, .int (nI mn), .ref mFu, .ref mFv, .ref mRw, .ref mBl, .ref mWy, .ref mFe])), (mTx, .inl (cI, 60, .inl (fun i => nI (tx i)))), (mLe, .inl (cI, 217, .inl (fun i => nI (le i)))), (mSz, .inl (cI, 31, .inl (fun i => nI (sz i)))), (mRw, .inl (cI, 61, .inl (fun i => nI (((mdO tx le w n ro bl (sz w)).1) i)))), (mBl, .inl (cI, 61, .inl (fun i => nI (((mdO tx le w n ro bl (sz w)).2) i))))] := by
  refine CI.ofV rfl (by decide +kernel) rfl (Nat.le_of_ble_eq_true rfl) ?_
  intro κ x hret
  refine V_iconst (v := nI 0) x dX7_distance_0 (by decide +kernel) ?_
  refine V_istore_n x 3 [(3, .int (nI 0)), (0, .ref hM), (1, .int (nI w)), (2, .int (nI n))] dX7_distance_1 rfl (by decide) rfl ?_
  have L2 : ∀ (k2 : Nat) (k : Nat) (r0 : Nat → Nat) (hk : k ≤ n + 1) (e1 : fil ro k = r0) (hk2 : n + 1 - k = k2), V κ 0 0 [(hM, .inr (7, [.int (nI ft), .int (nI ty), .ref mTx, .int (nI wr), .ref mPg, .int (nI cn), .ref mLe, .ref mSz, .int (nI pf), .ref mLo, .ref mHi, .ref mDp, .int (nI mn), .ref mFu, .ref mFv, .ref mRw, .ref mBl, .ref mWy, .ref mFe])), (mTx, .inl (cI, 60, .inl (fun i => nI (tx i)))), (mLe, .inl (cI, 217, .inl (fun i => nI (le i)))), (mSz, .inl (cI, 31, .inl (fun i => nI (sz i)))), (mRw, .inl (cI, 61, .inl (fun i => nI (r0 i)))), (mBl, .inl (cI, 61, .inl (fun i => nI (bl i))))] 2 [(0, .ref hM), (1, .int (nI w)), (2, .int (nI n)), (3, .int (nI k))] [] := by
    intro k2
    induction k2 using Nat.strongRecOn with
    | ind k2 ih2 =>
      intro k r0 hk e1 hk2
      refine V_iload_n x 3 dX7_distance_2 rfl rfl ?_
      refine V_iload_n x 2 dX7_distance_3 rfl rfl ?_
      refine V_icmp_gtN x 20 dX7_distance_4 rfl (fun t4 => ?_) (fun f4 => ?_)
      · skip
        refine V_iconst (v := nI 1) x dX7_distance_20 (by decide +kernel) ?_
        refine V_istore_n x 3 [(3, .int (nI 1)), (0, .ref hM), (1, .int (nI w)), (2, .int (nI n))] dX7_distance_21 rfl (by decide) rfl ?_
        have hsw := hsz w
        have L22 : ∀ (k22 : Nat) (y : Nat) (r1 : Nat → Nat) (b1 : Nat → Nat) (hi : y ≤ sz w) (e2 : mdO tx le w n ro bl y = (r1, b1)) (hk22 : sz w - y = k22), V κ 0 0 [(hM, .inr (7, [.int (nI ft), .int (nI ty), .ref mTx, .int (nI wr), .ref mPg, .int (nI cn), .ref mLe, .ref mSz, .int (nI pf), .ref mLo, .ref mHi, .ref mDp, .int (nI mn), .ref mFu, .ref mFv, .ref mRw, .ref mBl, .ref mWy, .ref mFe])), (mTx, .inl (cI, 60, .inl (fun i => nI (tx i)))), (mLe, .inl (cI, 217, .inl (fun i => nI (le i)))), (mSz, .inl (cI, 31, .inl (fun i => nI (sz i)))), (mRw, .inl (cI, 61, .inl (fun i => nI (r1 i)))), (mBl, .inl (cI, 61, .inl (fun i => nI (b1 i))))] 22 [(0, .ref hM), (1, .int (nI w)), (2, .int (nI n)), (3, .int (nI (y + 1)))] [] := by
          intro k22
          induction k22 using Nat.strongRecOn with
          | ind k22 ih22 =>
            intro y r1 b1 hi e2 hk22
            have hsw := hsz w
            refine V_iload_n x 3 dX7_distance_22 rfl rfl ?_
            refine V_aload_n x 0 dX7_distance_23 rfl rfl ?_
            refine V_get x 0 7 7 hinX7 rfl rfl (by decide) flX7_19 rfl dX7_distance_24 ?_
            refine V_iload_n x 1 dX7_distance_27 rfl rfl ?_
            refine V_iald x 3 0 rfl rfl dX7_distance_28 (by omega) (by omega) ?_
            refine V_icmp_gtN x 195 dX7_distance_29 rfl (fun t29 => ?_) (fun f29 => ?_)
            · skip
              refine V_aload_n x 0 dX7_distance_195 rfl rfl ?_
              refine V_get x 0 7 15 hinX7 rfl rfl (by decide) flX7_37 rfl dX7_distance_196 ?_
              refine V_iload_n x 2 dX7_distance_199 rfl rfl ?_
              refine V_iald x 4 0 rfl rfl dX7_distance_200 (by omega) (by omega) ?_
              obtain rfl : y = sz w := by omega
              rw [e2] at hret
              exact hret _ _ dX7_distance_201
            · skip
              refine V_aload_n x 0 dX7_distance_32 rfl rfl ?_
              refine V_get x 0 7 16 hinX7 rfl rfl (by decide) flX7_40 rfl dX7_distance_33 ?_
              refine V_iconst (v := nI 0) x dX7_distance_36 (by decide +kernel) ?_
              refine V_iload_n x 3 dX7_distance_37 rfl rfl ?_
              refine V_iast x 5 0 nI b1 (y + 1) [(hM, .inr (7, [.int (nI ft), .int (nI ty), .ref mTx, .int (nI wr), .ref mPg, .int (nI cn), .ref mLe, .ref mSz, .int (nI pf), .ref mLo, .ref mHi, .ref mDp, .int (nI mn), .ref mFu, .ref mFv, .ref mRw, .ref mBl, .ref mWy, .ref mFe])), (mTx, .inl (cI, 60, .inl (fun i => nI (tx i)))), (mLe, .inl (cI, 217, .inl (fun i => nI (le i)))), (mSz, .inl (cI, 31, .inl (fun i => nI (sz i)))), (mRw, .inl (cI, 61, .inl (fun i => nI (r1 i)))), (mBl, .inl (cI, 61, .inl (fun i => nI ((va_up b1 0 (y + 1)) i))))] rfl rfl dX7_distance_38 (by omega) (by omega) rfl ?_
              refine V_iconst (v := nI 1) x dX7_distance_39 (by decide +kernel) ?_
              refine V_istore x 4 [(4, .int (nI 1)), (0, .ref hM), (1, .int (nI w)), (2, .int (nI n)), (3, .int (nI (y + 1)))] dX7_distance_40 (by decide) rfl ?_
              have L42 : ∀ (k42 : Nat) (k : Nat) (b2 : Nat → Nat) (hk : k ≤ n) (e3 : mdB tx (le (7 * w + y)) r1 y b1 k = b2) (hk42 : n - k = k42), V κ 0 0 [(hM, .inr (7, [.int (nI ft), .int (nI ty), .ref mTx, .int (nI wr), .ref mPg, .int (nI cn), .ref mLe, .ref mSz, .int (nI pf), .ref mLo, .ref mHi, .ref mDp, .int (nI mn), .ref mFu, .ref mFv, .ref mRw, .ref mBl, .ref mWy, .ref mFe])), (mTx, .inl (cI, 60, .inl (fun i => nI (tx i)))), (mLe, .inl (cI, 217, .inl (fun i => nI (le i)))), (mSz, .inl (cI, 31, .inl (fun i => nI (sz i)))), (mRw, .inl (cI, 61, .inl (fun i => nI (r1 i)))), (mBl, .inl (cI, 61, .inl (fun i => nI (b2 i))))] 42 [(0, .ref hM), (1, .int (nI w)), (2, .int (nI n)), (3, .int (nI (y + 1))), (4, .int (nI (k + 1)))] [] := by
                intro k42
                induction k42 using Nat.strongRecOn with
                | ind k42 ih42 =>
                  intro k b2 hk e3 hk42
                  refine V_iload x 4 dX7_distance_42 rfl ?_
                  refine V_iload_n x 2 dX7_distance_44 rfl rfl ?_
                  refine V_icmp_gtN x 160 dX7_distance_45 rfl (fun t45 => ?_) (fun f45 => ?_)
                  · skip
                    refine V_iconst (v := nI 0) x dX7_distance_160 (by decide +kernel) ?_
                    refine V_istore x 4 [(4, .int (nI 0)), (0, .ref hM), (1, .int (nI w)), (2, .int (nI n)), (3, .int (nI (y + 1)))] dX7_distance_161 (by decide) rfl ?_
                    have L163 : ∀ (k163 : Nat) (k4 : Nat) (r2 : Nat → Nat) (hk4 : k4 ≤ n + 1) (e4 : mdC r1 b2 k4 = r2) (hk163 : n + 1 - k4 = k163), V κ 0 0 [(hM, .inr (7, [.int (nI ft), .int (nI ty), .ref mTx, .int (nI wr), .ref mPg, .int (nI cn), .ref mLe, .ref mSz, .int (nI pf), .ref mLo, .ref mHi, .ref mDp, .int (nI mn), .ref mFu, .ref mFv, .ref mRw, .ref mBl, .ref mWy, .ref mFe])), (mTx, .inl (cI, 60, .inl (fun i => nI (tx i)))), (mLe, .inl (cI, 217, .inl (fun i => nI (le i)))), (mSz, .inl (cI, 31, .inl (fun i => nI (sz i)))), (mRw, .inl (cI, 61, .inl (fun i => nI (r2 i)))), (mBl, .inl (cI, 61, .inl (fun i => nI (b2 i))))] 163 [(0, .ref hM), (1, .int (nI w)), (2, .int (nI n)), (3, .int (nI (y + 1))), (4, .int (nI k4))] [] := by
                      intro k163
                      induction k163 using Nat.strongRecOn with
                      | ind k163 ih163 =>
                        intro k4 r2 hk4 e4 hk163
                        refine V_iload x 4 dX7_distance_163 rfl ?_
                        refine V_iload_n x 2 dX7_distance_165 rfl rfl ?_
                        refine V_icmp_gtN x 189 dX7_distance_166 rfl (fun t166 => ?_) (fun f166 => ?_)
                        · skip
                          refine V_iinc x 3 3 [(3, .int (nI ((y + 1) + 1))), (0, .ref hM), (1, .int (nI w)), (2, .int (nI n)), (4, .int (nI k4))] dX7_distance_189 rfl (iinc_1 _) (by decide) rfl ?_
                          refine V_goto x 22 dX7_distance_192 rfl ?_
                          have hsw := hsz w
                          refine V.sub [1, 2, 3, 0] (lv' := [(0, .ref hM), (1, .int (nI w)), (2, .int (nI n)), (3, .int (nI ((y + 1) + 1)))]) rfl ?_
                          exact ih22 (sz w - (y + 1)) (by omega) (y + 1) r2 b2 (by omega) (by rw [mdO, e2]; show (mdC r1 (mdB tx (le (7 * w + y)) r1 y b1 n) (n + 1), mdB tx (le (7 * w + y)) r1 y b1 n) = _; rw [← show k = n by omega, e3, show k + 1 = k4 by omega, e4]) rfl
                        · skip
                          refine V_aload_n x 0 dX7_distance_169 rfl rfl ?_
                          refine V_get x 0 7 15 hinX7 rfl rfl (by decide) flX7_37 rfl dX7_distance_170 ?_
                          refine V_iload x 4 dX7_distance_173 rfl ?_
                          refine V_aload_n x 0 dX7_distance_175 rfl rfl ?_
                          refine V_get x 0 7 16 hinX7 rfl rfl (by decide) flX7_40 rfl dX7_distance_176 ?_
                          refine V_iload x 4 dX7_distance_179 rfl ?_
                          refine V_iald x 5 0 rfl rfl dX7_distance_181 (by omega) (by omega) ?_
                          refine V_iast x 4 0 nI r2 (b2 k4) [(hM, .inr (7, [.int (nI ft), .int (nI ty), .ref mTx, .int (nI wr), .ref mPg, .int (nI cn), .ref mLe, .ref mSz, .int (nI pf), .ref mLo, .ref mHi, .ref mDp, .int (nI mn), .ref mFu, .ref mFv, .ref mRw, .ref mBl, .ref mWy, .ref mFe])), (mTx, .inl (cI, 60, .inl (fun i => nI (tx i)))), (mLe, .inl (cI, 217, .inl (fun i => nI (le i)))), (mSz, .inl (cI, 31, .inl (fun i => nI (sz i)))), (mRw, .inl (cI, 61, .inl (fun i => nI ((va_up r2 k4 (b2 k4)) i)))), (mBl, .inl (cI, 61, .inl (fun i => nI (b2 i))))] rfl rfl dX7_distance_182 (by omega) (by omega) rfl ?_
                          refine V_iinc x 4 4 [(4, .int (nI (k4 + 1))), (0, .ref hM), (1, .int (nI w)), (2, .int (nI n)), (3, .int (nI (y + 1)))] dX7_distance_183 rfl (iinc_1 _) (by decide) rfl ?_
                          refine V_goto x 163 dX7_distance_186 rfl ?_
                          refine V.sub [1, 2, 3, 4, 0] (lv' := [(0, .ref hM), (1, .int (nI w)), (2, .int (nI n)), (3, .int (nI (y + 1))), (4, .int (nI ((k4 + 1))))]) rfl ?_
                          exact ih163 (n + 1 - (k4 + 1)) (by omega) (k4 + 1) (va_up r2 k4 (b2 k4)) (by omega) (by rw [mdC, e4]) rfl
                    refine V.sub [1, 2, 3, 4, 0] (lv' := [(0, .ref hM), (1, .int (nI w)), (2, .int (nI n)), (3, .int (nI (y + 1))), (4, .int (nI 0))]) rfl ?_
                    exact L163 _ 0 r1 (by omega) rfl rfl
                  · skip
                    have hb9 : b2 k ≤ y + 1 + k := by rw [← e3]; exact (mdB_ok k).1 k (Nat.le_refl _)
                    have hr9 : r1 (k + 1) ≤ y + (k + 1) := by
                      have h8 := (mdO_ok (tx := tx) (le := le) (w := w) (n := n) (ro := ro) (bl := bl) y).1 (k + 1) (by omega)
                      rw [e2] at h8
                      exact h8
                    have hr8 : r1 k ≤ y + k := by
                      have h8 := (mdO_ok (tx := tx) (le := le) (w := w) (n := n) (ro := ro) (bl := bl) y).1 k (by omega)
                      rw [e2] at h8
                      exact h8
                    have hlk := hle (7 * w + y)
                    have hmk := mlt_le (tx k)
                    refine V_aload_n x 0 dX7_distance_48 rfl rfl ?_
                    refine V_get x 0 7 15 hinX7 rfl rfl (by decide) flX7_37 rfl dX7_distance_49 ?_
                    refine V_iload x 4 dX7_distance_52 rfl ?_
                    refine V_iconst (v := nI 1) x dX7_distance_54 (by decide +kernel) ?_
                    refine V_isub x (nI k) dX7_distance_55 (nI_pred k) ?_
                    refine V_iald x 4 0 rfl rfl dX7_distance_56 (by omega) (by omega) ?_
                    refine V_aload_n x 0 dX7_distance_57 rfl rfl ?_
                    refine V_iload x 4 dX7_distance_58 rfl ?_
                    refine V_iconst (v := nI 1) x dX7_distance_60 (by decide +kernel) ?_
                    refine V_isub x (nI k) dX7_distance_61 (nI_pred k) ?_
                    refine V_callVi x (m_letter l D cI cZ cC cJ hM mTx mPg mLe mSz mLo mHi mDp mFu mFv mRw mBl mWy mFe ft ty wr cn pf mn tx k (by first | omega | assumption) (by first | omega | assumption)) 1 (gdV mlX7_61 imX7_letter seX7_letter inX7 coX7_letter) rfl hdX7_letter ⟨Nat.le_of_ble_eq_true rfl, Nat.le_of_ble_eq_true rfl⟩ ⟨rfl, rfl⟩ 0 rfl rfl rfl [0, 1] [(hM, .inr (7, [.int (nI ft), .int (nI ty), .ref mTx, .int (nI wr), .ref mPg, .int (nI cn), .ref mLe, .ref mSz, .int (nI pf), .ref mLo, .ref mHi, .ref mDp, .int (nI mn), .ref mFu, .ref mFv, .ref mRw, .ref mBl, .ref mWy, .ref mFe])), (mTx, .inl (cI, 60, .inl (fun i => nI (tx i)))), (mLe, .inl (cI, 217, .inl (fun i => nI (le i)))), (mSz, .inl (cI, 31, .inl (fun i => nI (sz i)))), (mRw, .inl (cI, 61, .inl (fun i => nI (r1 i)))), (mBl, .inl (cI, 61, .inl (fun i => nI (b2 i))))] rfl rfl [hM, mTx] rfl rfl [some 0, some 1] rfl rfl (rest := [.int (nI (r1 k))]) rfl (Nat.le_of_ble_eq_true rfl) dX7_distance_62 ⟨Nat.zero_le _, Nat.zero_le _⟩ ?_
                    refine V_aload_n x 0 dX7_distance_65 rfl rfl ?_
                    refine V_get x 0 7 6 hinX7 rfl rfl (by decide) flX7_16 rfl dX7_distance_66 ?_
                    refine V_bipush (v := nI 7) x dX7_distance_69 (by decide +kernel) ?_
                    refine V_iload_n x 1 dX7_distance_71 rfl rfl ?_
                    refine V_imul x (nI (7 * w)) dX7_distance_72 (pk_mul _ _) ?_
                    refine V_iload_n x 3 dX7_distance_73 rfl rfl ?_
                    refine V_iadd x (nI (7 * w + y + 1)) dX7_distance_74 (nI_add _ _) ?_
                    refine V_iconst (v := nI 1) x dX7_distance_75 (by decide +kernel) ?_
                    refine V_isub x (nI (7 * w + y)) dX7_distance_76 (nI_pred _) ?_
                    refine V_iald x 2 0 rfl rfl dX7_distance_77 (by omega) (by omega) ?_
                    have J86 : V κ 0 0 [(hM, .inr (7, [.int (nI ft), .int (nI ty), .ref mTx, .int (nI wr), .ref mPg, .int (nI cn), .ref mLe, .ref mSz, .int (nI pf), .ref mLo, .ref mHi, .ref mDp, .int (nI mn), .ref mFu, .ref mFv, .ref mRw, .ref mBl, .ref mWy, .ref mFe])), (mTx, .inl (cI, 60, .inl (fun i => nI (tx i)))), (mLe, .inl (cI, 217, .inl (fun i => nI (le i)))), (mSz, .inl (cI, 31, .inl (fun i => nI (sz i)))), (mRw, .inl (cI, 61, .inl (fun i => nI (r1 i)))), (mBl, .inl (cI, 61, .inl (fun i => nI (b2 i))))] 86 [(0, .ref hM), (1, .int (nI w)), (2, .int (nI n)), (3, .int (nI (y + 1))), (4, .int (nI (k + 1)))] [.int (nI (if mlt (tx k) = le (7 * w + y) then 0 else 1)), .int (nI (r1 k))] := by
                      refine V_iadd x (nI ((r1 k) + (if mlt (tx k) = le (7 * w + y) then 0 else 1))) dX7_distance_86 (nI_add _ _) ?_
                      refine V_istore x 5 [(5, .int (nI ((r1 k) + (if mlt (tx k) = le (7 * w + y) then 0 else 1)))), (0, .ref hM), (1, .int (nI w)), (2, .int (nI n)), (3, .int (nI (y + 1))), (4, .int (nI (k + 1)))] dX7_distance_87 (by decide) rfl ?_
                      refine V_aload_n x 0 dX7_distance_89 rfl rfl ?_
                      refine V_get x 0 7 15 hinX7 rfl rfl (by decide) flX7_37 rfl dX7_distance_90 ?_
                      refine V_iload x 4 dX7_distance_93 rfl ?_
                      refine V_iald x 4 0 rfl rfl dX7_distance_95 (by omega) (by omega) ?_
                      refine V_aload_n x 0 dX7_distance_96 rfl rfl ?_
                      refine V_get x 0 7 16 hinX7 rfl rfl (by decide) flX7_40 rfl dX7_distance_97 ?_
                      refine V_iload x 4 dX7_distance_100 rfl ?_
                      refine V_iconst (v := nI 1) x dX7_distance_102 (by decide +kernel) ?_
                      refine V_isub x (nI k) dX7_distance_103 (nI_pred k) ?_
                      refine V_iald x 5 0 rfl rfl dX7_distance_104 (by omega) (by omega) ?_
                      have J131 : V κ 0 0 [(hM, .inr (7, [.int (nI ft), .int (nI ty), .ref mTx, .int (nI wr), .ref mPg, .int (nI cn), .ref mLe, .ref mSz, .int (nI pf), .ref mLo, .ref mHi, .ref mDp, .int (nI mn), .ref mFu, .ref mFv, .ref mRw, .ref mBl, .ref mWy, .ref mFe])), (mTx, .inl (cI, 60, .inl (fun i => nI (tx i)))), (mLe, .inl (cI, 217, .inl (fun i => nI (le i)))), (mSz, .inl (cI, 31, .inl (fun i => nI (sz i)))), (mRw, .inl (cI, 61, .inl (fun i => nI (r1 i)))), (mBl, .inl (cI, 61, .inl (fun i => nI (b2 i))))] 131 [(5, .int (nI ((r1 k) + (if mlt (tx k) = le (7 * w + y) then 0 else 1)))), (0, .ref hM), (1, .int (nI w)), (2, .int (nI n)), (3, .int (nI (y + 1))), (4, .int (nI (k + 1)))] [.int (nI (if r1 (k + 1) < b2 k then r1 (k + 1) + 1 else b2 k + 1))] := by
                        refine V_istore x 6 [(6, .int (nI (if r1 (k + 1) < b2 k then r1 (k + 1) + 1 else b2 k + 1))), (5, .int (nI ((r1 k) + (if mlt (tx k) = le (7 * w + y) then 0 else 1)))), (0, .ref hM), (1, .int (nI w)), (2, .int (nI n)), (3, .int (nI (y + 1))), (4, .int (nI (k + 1)))] dX7_distance_131 (by decide) rfl ?_
                        refine V_aload_n x 0 dX7_distance_133 rfl rfl ?_
                        refine V_get x 0 7 16 hinX7 rfl rfl (by decide) flX7_40 rfl dX7_distance_134 ?_
                        refine V_iload x 4 dX7_distance_137 rfl ?_
                        refine V_iload x 5 dX7_distance_139 rfl ?_
                        refine V_iload x 6 dX7_distance_141 rfl ?_
                        have J153 : V κ 0 0 [(hM, .inr (7, [.int (nI ft), .int (nI ty), .ref mTx, .int (nI wr), .ref mPg, .int (nI cn), .ref mLe, .ref mSz, .int (nI pf), .ref mLo, .ref mHi, .ref mDp, .int (nI mn), .ref mFu, .ref mFv, .ref mRw, .ref mBl, .ref mWy, .ref mFe])), (mTx, .inl (cI, 60, .inl (fun i => nI (tx i)))), (mLe, .inl (cI, 217, .inl (fun i => nI (le i)))), (mSz, .inl (cI, 31, .inl (fun i => nI (sz i)))), (mRw, .inl (cI, 61, .inl (fun i => nI (r1 i)))), (mBl, .inl (cI, 61, .inl (fun i => nI (b2 i))))] 153 [(6, .int (nI (if r1 (k + 1) < b2 k then r1 (k + 1) + 1 else b2 k + 1))), (5, .int (nI ((r1 k) + (if mlt (tx k) = le (7 * w + y) then 0 else 1)))), (0, .ref hM), (1, .int (nI w)), (2, .int (nI n)), (3, .int (nI (y + 1))), (4, .int (nI (k + 1)))] [.int (nI (mdv (r1 k) (tx k) (le (7 * w + y)) (r1 (k + 1)) (b2 k))), .int (nI (k + 1)), .ref mBl] := by
                          refine V_iast x 5 0 nI b2 (mdv (r1 k) (tx k) (le (7 * w + y)) (r1 (k + 1)) (b2 k)) [(hM, .inr (7, [.int (nI ft), .int (nI ty), .ref mTx, .int (nI wr), .ref mPg, .int (nI cn), .ref mLe, .ref mSz, .int (nI pf), .ref mLo, .ref mHi, .ref mDp, .int (nI mn), .ref mFu, .ref mFv, .ref mRw, .ref mBl, .ref mWy, .ref mFe])), (mTx, .inl (cI, 60, .inl (fun i => nI (tx i)))), (mLe, .inl (cI, 217, .inl (fun i => nI (le i)))), (mSz, .inl (cI, 31, .inl (fun i => nI (sz i)))), (mRw, .inl (cI, 61, .inl (fun i => nI (r1 i)))), (mBl, .inl (cI, 61, .inl (fun i => nI ((va_up b2 (k + 1) (mdv (r1 k) (tx k) (le (7 * w + y)) (r1 (k + 1)) (b2 k))) i))))] rfl rfl dX7_distance_153 (by omega) (by omega) rfl ?_
                          refine V_iinc x 4 6 [(4, .int (nI ((k + 1) + 1))), (6, .int (nI (if r1 (k + 1) < b2 k then r1 (k + 1) + 1 else b2 k + 1))), (5, .int (nI ((r1 k) + (if mlt (tx k) = le (7 * w + y) then 0 else 1)))), (0, .ref hM), (1, .int (nI w)), (2, .int (nI n)), (3, .int (nI (y + 1)))] dX7_distance_154 rfl (iinc_1 _) (by decide) rfl ?_
                          refine V_goto x 42 dX7_distance_157 rfl ?_
                          refine V.sub [3, 4, 5, 6, 0] (lv' := [(0, .ref hM), (1, .int (nI w)), (2, .int (nI n)), (3, .int (nI (y + 1))), (4, .int (nI ((k + 1) + 1)))]) rfl ?_
                          exact ih42 (n - (k + 1)) (by omega) (k + 1) (va_up b2 (k + 1) (mdv (r1 k) (tx k) (le (7 * w + y)) (r1 (k + 1)) (b2 k))) (by omega) (by rw [mdB, e3]) rfl
                        refine V_icmp_geN x 151 dX7_distance_143 rfl (fun t143 => ?_) (fun f143 => ?_) (by split <;> omega) (by split <;> omega)
                        · skip
                          refine V_iload x 6 dX7_distance_151 rfl ?_
                          refine V.ci (x' := nI (mdv (r1 k) (tx k) (le (7 * w + y)) (r1 (k + 1)) (b2 k))) (by first | (rw [mdv_lt f143]; done) | (rw [mdv_ge t143])) ?_
                          exact J153
                        · skip
                          refine V_iload x 5 dX7_distance_146 rfl ?_
                          refine V_goto x 153 dX7_distance_148 rfl ?_
                          refine V.ci (x' := nI (mdv (r1 k) (tx k) (le (7 * w + y)) (r1 (k + 1)) (b2 k))) (by first | (rw [mdv_lt f143]; done) | (rw [mdv_ge t143])) ?_
                          exact J153
                      refine V_icmp_geN x 120 dX7_distance_105 rfl (fun t105 => ?_) (fun f105 => ?_)
                      · skip
                        refine V_aload_n x 0 dX7_distance_120 rfl rfl ?_
                        refine V_get x 0 7 16 hinX7 rfl rfl (by decide) flX7_40 rfl dX7_distance_121 ?_
                        refine V_iload x 4 dX7_distance_124 rfl ?_
                        refine V_iconst (v := nI 1) x dX7_distance_126 (by decide +kernel) ?_
                        refine V_isub x (nI k) dX7_distance_127 (nI_pred k) ?_
                        refine V_iald x 5 0 rfl rfl dX7_distance_128 (by omega) (by omega) ?_
                        refine V_iconst (v := nI 1) x dX7_distance_129 (by decide +kernel) ?_
                        refine V_iadd x (nI ((b2 k) + 1)) dX7_distance_130 (nI_add _ _) ?_
                        refine V.ci (x' := nI (if r1 (k + 1) < b2 k then r1 (k + 1) + 1 else b2 k + 1)) (by first | (rw [if_pos (by omega)]; done) | (rw [if_neg (by omega)])) ?_
                        exact J131
                      · skip
                        refine V_aload_n x 0 dX7_distance_108 rfl rfl ?_
                        refine V_get x 0 7 15 hinX7 rfl rfl (by decide) flX7_37 rfl dX7_distance_109 ?_
                        refine V_iload x 4 dX7_distance_112 rfl ?_
                        refine V_iald x 4 0 rfl rfl dX7_distance_114 (by omega) (by omega) ?_
                        refine V_iconst (v := nI 1) x dX7_distance_115 (by decide +kernel) ?_
                        refine V_iadd x (nI ((r1 (k + 1)) + 1)) dX7_distance_116 (nI_add _ _) ?_
                        refine V_goto x 131 dX7_distance_117 rfl ?_
                        refine V.ci (x' := nI (if r1 (k + 1) < b2 k then r1 (k + 1) + 1 else b2 k + 1)) (by first | (rw [if_pos (by omega)]; done) | (rw [if_neg (by omega)])) ?_
                        exact J131
                    refine V_icmp_neN x 85 dX7_distance_78 rfl (fun t78 => ?_) (fun f78 => ?_)
                    · skip
                      refine V_iconst (v := nI 1) x dX7_distance_85 (by decide +kernel) ?_
                      refine V.ci (x' := nI (if mlt (tx k) = le (7 * w + y) then 0 else 1)) (by first | (rw [if_pos f78]; done) | (rw [if_neg t78])) ?_
                      exact J86
                    · skip
                      refine V_iconst (v := nI 0) x dX7_distance_81 (by decide +kernel) ?_
                      refine V_goto x 86 dX7_distance_82 rfl ?_
                      refine V.ci (x' := nI (if mlt (tx k) = le (7 * w + y) then 0 else 1)) (by first | (rw [if_pos f78]; done) | (rw [if_neg t78])) ?_
                      exact J86
              refine V.sub [1, 2, 3, 4, 0] (lv' := [(0, .ref hM), (1, .int (nI w)), (2, .int (nI n)), (3, .int (nI (y + 1))), (4, .int (nI (0 + 1)))]) rfl ?_
              exact L42 _ 0 (va_up b1 0 (y + 1)) (by omega) rfl rfl
        refine V.sub [1, 2, 3, 0] (lv' := [(0, .ref hM), (1, .int (nI w)), (2, .int (nI n)), (3, .int (nI (0 + 1)))]) rfl ?_
        exact L22 _ 0 r0 bl (by omega) (by rw [← e1, show k = n + 1 by omega]; rfl) rfl
      · skip
        refine V_aload_n x 0 dX7_distance_7 rfl rfl ?_
        refine V_get x 0 7 15 hinX7 rfl rfl (by decide) flX7_37 rfl dX7_distance_8 ?_
        refine V_iload_n x 3 dX7_distance_11 rfl rfl ?_
        refine V_iload_n x 3 dX7_distance_12 rfl rfl ?_
        refine V_iast x 4 0 nI r0 k [(hM, .inr (7, [.int (nI ft), .int (nI ty), .ref mTx, .int (nI wr), .ref mPg, .int (nI cn), .ref mLe, .ref mSz, .int (nI pf), .ref mLo, .ref mHi, .ref mDp, .int (nI mn), .ref mFu, .ref mFv, .ref mRw, .ref mBl, .ref mWy, .ref mFe])), (mTx, .inl (cI, 60, .inl (fun i => nI (tx i)))), (mLe, .inl (cI, 217, .inl (fun i => nI (le i)))), (mSz, .inl (cI, 31, .inl (fun i => nI (sz i)))), (mRw, .inl (cI, 61, .inl (fun i => nI ((va_up r0 k k) i)))), (mBl, .inl (cI, 61, .inl (fun i => nI (bl i))))] rfl rfl dX7_distance_13 (by omega) (by omega) rfl ?_
        refine V_iinc x 3 3 [(3, .int (nI (k + 1))), (0, .ref hM), (1, .int (nI w)), (2, .int (nI n))] dX7_distance_14 rfl (iinc_1 _) (by decide) rfl ?_
        refine V_goto x 2 dX7_distance_17 rfl ?_
        refine V.sub [1, 2, 3, 0] (lv' := [(0, .ref hM), (1, .int (nI w)), (2, .int (nI n)), (3, .int (nI ((k + 1))))]) rfl ?_
        exact ih2 (n + 1 - (k + 1)) (by omega) (k + 1) (va_up r0 k k) (by omega) (by rw [fil, e1]) rfl
  refine V.sub [1, 2, 3, 0] (lv' := [(0, .ref hM), (1, .int (nI w)), (2, .int (nI n)), (3, .int (nI 0))]) rfl ?_
  exact L2 _ 0 ro (by omega) rfl rfl
