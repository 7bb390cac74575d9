/-! contracts, laid by prog/mk.py -/
set_option maxHeartbeats 4000000 in
set_option maxRecDepth 100000 in
theorem m_thrown (l : Launch) (D : va_G) (cI cZ cC cJ : ClassId) (hM mTx mPg mLe mSz mLo mHi mDp mFu mFv mRw mBl mWy mFe : Nat) (ft : Nat) (ty : Nat) (wr : Nat) (cn : Nat) (pf : Nat) (mn : Nat)  : CI l yX7_thrown wsX7_thrown { frames := 0, cells := 0, slots := 0, locals := 0 } D vwCl (tys4 cI cZ cC cJ) [.ref hM] [(hM, .inr (7, [.int (nI ft), .int (nI ty), .ref mTx, .int (nI wr), .ref mPg, .int (nI cn), .ref mLe, .ref mSz, .int (nI pf), .ref mLo, .ref mHi, .ref mDp, .int (nI mn), .ref mFu, .ref mFv, .ref mRw, .ref mBl, .ref mWy, .ref mFe]))] ((nI ft)) [(hM, .inr (7, [.int (nI ft), .int (nI ty), .ref mTx, .int (nI wr), .ref mPg, .int (nI cn), .ref mLe, .ref mSz, .int (nI pf), .ref mLo, .ref mHi, .ref mDp, .int (nI mn), .ref mFu, .ref mFv, .ref mRw, .ref mBl, .ref mWy, .ref mFe]))] := by
  refine CI.ofV rfl (by decide +kernel) rfl (Nat.le_of_ble_eq_true rfl) ?_
  intro κ x hret
  refine V_aload_n x 0 dX7_thrown_0 rfl rfl ?_
  refine V_get x 0 7 0 hinX7 rfl rfl (by decide) flX7_50 rfl dX7_thrown_1 ?_
  exact hret _ _ dX7_thrown_4
set_option maxHeartbeats 4000000 in
set_option maxRecDepth 100000 in
theorem m_take (l : Launch) (D : va_G) (cI cZ cC cJ : ClassId) (hM mTx mPg mLe mSz mLo mHi mDp mFu mFv mRw mBl mWy mFe : Nat) (ft : Nat) (ty : Nat) (wr : Nat) (cn : Nat) (pf : Nat) (mn : Nat)  : CI l yX7_take wsX7_take { frames := 0, cells := 0, slots := 0, locals := 0 } D vwCl (tys4 cI cZ cC cJ) [.ref hM] [(hM, .inr (7, [.int (nI ft), .int (nI ty), .ref mTx, .int (nI wr), .ref mPg, .int (nI cn), .ref mLe, .ref mSz, .int (nI pf), .ref mLo, .ref mHi, .ref mDp, .int (nI mn), .ref mFu, .ref mFv, .ref mRw, .ref mBl, .ref mWy, .ref mFe]))] ((nI ty)) [(hM, .inr (7, [.int (nI ft), .int (nI 0), .ref mTx, .int (nI wr), .ref mPg, .int (nI cn), .ref mLe, .ref mSz, .int (nI pf), .ref mLo, .ref mHi, .ref mDp, .int (nI mn), .ref mFu, .ref mFv, .ref mRw, .ref mBl, .ref mWy, .ref mFe]))] := by
  refine CI.ofV rfl (by decide +kernel) rfl (Nat.le_of_ble_eq_true rfl) ?_
  intro κ x hret
  refine V_aload_n x 0 dX7_take_0 rfl rfl ?_
  refine V_get x 0 7 1 hinX7 rfl rfl (by decide) flX7_54 rfl dX7_take_1 ?_
  refine V_istore_n x 1 [(1, .int (nI ty)), (0, .ref hM)] dX7_take_4 rfl (by decide) rfl ?_
  refine V_aload_n x 0 dX7_take_5 rfl rfl ?_
  refine V_iconst (v := nI 0) x dX7_take_6 (by decide +kernel) ?_
  refine V_put (ty := .int) x 0 7 1 [(hM, .inr (7, [.int (nI ft), .int (nI 0), .ref mTx, .int (nI wr), .ref mPg, .int (nI cn), .ref mLe, .ref mSz, .int (nI pf), .ref mLo, .ref mHi, .ref mDp, .int (nI mn), .ref mFu, .ref mFv, .ref mRw, .ref mBl, .ref mWy, .ref mFe]))] hinX7 tyX7 tyX7_ok nmX7 rfl rfl (by decide) flX7_54 rfl (by decide +kernel) rfl rfl (Nat.le_of_ble_eq_true rfl) rfl dX7_take_7 ?_
  refine V_iload_n x 1 dX7_take_10 rfl rfl ?_
  exact hret _ _ dX7_take_11
set_option maxHeartbeats 4000000 in
set_option maxRecDepth 100000 in
theorem m_letter (l : Launch) (D : va_G) (cI cZ cC cJ : ClassId) (hM mTx mPg mLe mSz mLo mHi mDp mFu mFv mRw mBl mWy mFe : Nat) (ft : Nat) (ty : Nat) (wr : Nat) (cn : Nat) (pf : Nat) (mn : Nat) (tx : Nat → Nat) (p : Nat) (hp : p < 60) (htx : ∀ i, tx i < 65536) : CI l yX7_letter wsX7_letter { frames := 0, cells := 0, slots := 0, locals := 0 } D vwCl (tys4 cI cZ cC cJ) [.ref hM, .int (nI p)] [(hM, .inr (7, [.int (nI ft), .int (nI ty), .ref mTx, .int (nI wr), .ref mPg, .int (nI cn), .ref mLe, .ref mSz, .int (nI pf), .ref mLo, .ref mHi, .ref mDp, .int (nI mn), .ref mFu, .ref mFv, .ref mRw, .ref mBl, .ref mWy, .ref mFe])), (mTx, .inl (cI, 60, .inl (fun i => nI (tx i))))] ((nI (mlt (tx p)))) [(hM, .inr (7, [.int (nI ft), .int (nI ty), .ref mTx, .int (nI wr), .ref mPg, .int (nI cn), .ref mLe, .ref mSz, .int (nI pf), .ref mLo, .ref mHi, .ref mDp, .int (nI mn), .ref mFu, .ref mFv, .ref mRw, .ref mBl, .ref mWy, .ref mFe])), (mTx, .inl (cI, 60, .inl (fun i => nI (tx i))))] := by
  refine CI.ofV rfl (by decide +kernel) rfl (Nat.le_of_ble_eq_true rfl) ?_
  intro κ x hret
  refine V_aload_n x 0 dX7_letter_0 rfl rfl ?_
  refine V_get x 0 7 2 hinX7 rfl rfl (by decide) flX7_7 rfl dX7_letter_1 ?_
  refine V_iload_n x 1 dX7_letter_4 rfl rfl ?_
  refine V_iald x 1 0 rfl rfl dX7_letter_5 (by omega) (by omega) ?_
  refine V_bipush (v := nI 97) x dX7_letter_6 (by decide +kernel) ?_
  refine V_icmp_ltN x 36 dX7_letter_8 rfl (fun t8 => ?_) (fun f8 => ?_) (by have := htx p; omega) (by omega)
  · skip
    refine V_iconst (v := nI 0) x dX7_letter_36 (by decide +kernel) ?_
    refine V.ci (x' := nI (mlt (tx p))) (by first | (rw [mlt_p (by omega) (by omega)]; done) | (rw [mlt_n (by omega)])) ?_
    exact hret _ _ dX7_letter_37
  · skip
    refine V_aload_n x 0 dX7_letter_11 rfl rfl ?_
    refine V_get x 0 7 2 hinX7 rfl rfl (by decide) flX7_7 rfl dX7_letter_12 ?_
    refine V_iload_n x 1 dX7_letter_15 rfl rfl ?_
    refine V_iald x 1 0 rfl rfl dX7_letter_16 (by omega) (by omega) ?_
    refine V_bipush (v := nI 104) x dX7_letter_17 (by decide +kernel) ?_
    refine V_icmp_gtN x 36 dX7_letter_19 rfl (fun t19 => ?_) (fun f19 => ?_) (by have := htx p; omega) (by omega)
    · skip
      refine V_iconst (v := nI 0) x dX7_letter_36 (by decide +kernel) ?_
      refine V.ci (x' := nI (mlt (tx p))) (by first | (rw [mlt_p (by omega) (by omega)]; done) | (rw [mlt_n (by omega)])) ?_
      exact hret _ _ dX7_letter_37
    · skip
      refine V_aload_n x 0 dX7_letter_22 rfl rfl ?_
      refine V_get x 0 7 2 hinX7 rfl rfl (by decide) flX7_7 rfl dX7_letter_23 ?_
      refine V_iload_n x 1 dX7_letter_26 rfl rfl ?_
      refine V_iald x 1 0 rfl rfl dX7_letter_27 (by omega) (by omega) ?_
      refine V_bipush (v := nI 97) x dX7_letter_28 (by decide +kernel) ?_
      refine V_isub x (nI ((tx p) - 97)) dX7_letter_30 (pk_sub (by omega)) ?_
      refine V_iconst (v := nI 1) x dX7_letter_31 (by decide +kernel) ?_
      refine V_iadd x (nI (((tx p) - 97) + 1)) dX7_letter_32 (nI_add _ _) ?_
      refine V_goto x 37 dX7_letter_33 rfl ?_
      refine V.ci (x' := nI (mlt (tx p))) (by first | (rw [mlt_p (by omega) (by omega)]; done) | (rw [mlt_n (by omega)])) ?_
      exact hret _ _ dX7_letter_37
set_option maxHeartbeats 4000000 in
set_option maxRecDepth 100000 in
theorem m_isWord (l : Launch) (D : va_G) (cI cZ cC cJ : ClassId) (hM mTx mPg mLe mSz mLo mHi mDp mFu mFv mRw mBl mWy mFe : Nat) (ft : Nat) (ty : Nat) (wr : Nat) (cn : Nat) (pf : Nat) (mn : Nat) (tx : Nat → Nat) (b : Nat) (n : Nat) (hb : b + n ≤ 60) (htx : ∀ i, tx i < 65536) : CI l yX7_isWord wsX7_isWord { frames := 1, cells := 0, slots := 0, locals := 21 } D vwCl (tys4 cI cZ cC cJ) [.ref hM, .int (nI b), .int (nI n)] [(hM, .inr (7, [.int (nI ft), .int (nI ty), .ref mTx, .int (nI wr), .ref mPg, .int (nI cn), .ref mLe, .ref mSz, .int (nI pf), .ref mLo, .ref mHi, .ref mDp, .int (nI mn), .ref mFu, .ref mFv, .ref mRw, .ref mBl, .ref mWy, .ref mFe])), (mTx, .inl (cI, 60, .inl (fun i => nI (tx i))))] ((bI (miw tx b n n))) [(hM, .inr (7, [.int (nI ft), .int (nI ty), .ref mTx, .int (nI wr), .ref mPg, .int (nI cn), .ref mLe, .ref mSz, .int (nI pf), .ref mLo, .ref mHi, .ref mDp, .int (nI mn), .ref mFu, .ref mFv, .ref mRw, .ref mBl, .ref mWy, .ref mFe])), (mTx, .inl (cI, 60, .inl (fun i => nI (tx i))))] := by
  refine CI.ofV (nar_bI2 _) (by decide +kernel) rfl (Nat.le_of_ble_eq_true rfl) ?_
  intro κ x hret
  refine V_iload_n x 2 dX7_isWord_0 rfl rfl ?_
  refine V_iconst (v := nI 1) x dX7_isWord_1 (by decide +kernel) ?_
  have J16 : V κ 0 0 [(hM, .inr (7, [.int (nI ft), .int (nI ty), .ref mTx, .int (nI wr), .ref mPg, .int (nI cn), .ref mLe, .ref mSz, .int (nI pf), .ref mLo, .ref mHi, .ref mDp, .int (nI mn), .ref mFu, .ref mFv, .ref mRw, .ref mBl, .ref mWy, .ref mFe])), (mTx, .inl (cI, 60, .inl (fun i => nI (tx i))))] 16 [(0, .ref hM), (1, .int (nI b)), (2, .int (nI n))] [.int (bI (decide (1 ≤ n ∧ n ≤ 7)))] := by
    refine V_istore_n x 3 [(3, .int (bI (decide (1 ≤ n ∧ n ≤ 7)))), (0, .ref hM), (1, .int (nI b)), (2, .int (nI n))] dX7_isWord_16 rfl (by decide) rfl ?_
    refine V_iconst (v := nI 0) x dX7_isWord_17 (by decide +kernel) ?_
    refine V_istore x 4 [(4, .int (nI 0)), (3, .int (bI (decide (1 ≤ n ∧ n ≤ 7)))), (0, .ref hM), (1, .int (nI b)), (2, .int (nI n))] dX7_isWord_18 (by decide) rfl ?_
    have L20 : ∀ (k20 : Nat) (k : Nat) (q : Bool) (hk : k ≤ n) (e1 : miw tx b n k = q) (hk20 : n - k = k20), V κ 0 0 [(hM, .inr (7, [.int (nI ft), .int (nI ty), .ref mTx, .int (nI wr), .ref mPg, .int (nI cn), .ref mLe, .ref mSz, .int (nI pf), .ref mLo, .ref mHi, .ref mDp, .int (nI mn), .ref mFu, .ref mFv, .ref mRw, .ref mBl, .ref mWy, .ref mFe])), (mTx, .inl (cI, 60, .inl (fun i => nI (tx i))))] 20 [(0, .ref hM), (1, .int (nI b)), (2, .int (nI n)), (3, .int (bI q)), (4, .int (nI k))] [] := by
      intro k20
      induction k20 using Nat.strongRecOn with
      | ind k20 ih20 =>
        intro k q hk e1 hk20
        refine V_iload x 4 dX7_isWord_20 rfl ?_
        refine V_iload_n x 2 dX7_isWord_22 rfl rfl ?_
        refine V_icmp_geN x 53 dX7_isWord_23 rfl (fun t23 => ?_) (fun f23 => ?_)
        · skip
          refine V_iload_n x 3 dX7_isWord_53 rfl rfl ?_
          refine V.ci (x' := bI (miw tx b n n)) (by first | (rw [← e1, show k = n by omega]; done) | (rw [miw_false (e1.trans t27) (show k ≤ n by omega), t27])) ?_
          exact hret _ _ dX7_isWord_54
        · skip
          refine V_iload_n x 3 dX7_isWord_26 rfl rfl ?_
          refine V_if_eqB x 53 dX7_isWord_27 rfl (fun t27 => ?_) (fun f27 => ?_)
          · skip
            refine V_iload_n x 3 dX7_isWord_53 rfl rfl ?_
            refine V.ci (x' := bI (miw tx b n n)) (by first | (rw [← e1, show k = n by omega]; done) | (rw [miw_false (e1.trans t27) (show k ≤ n by omega), t27])) ?_
            exact hret _ _ dX7_isWord_54
          · skip
            refine V_aload_n x 0 dX7_isWord_30 rfl rfl ?_
            refine V_iload_n x 1 dX7_isWord_31 rfl rfl ?_
            refine V_iload x 4 dX7_isWord_32 rfl ?_
            refine V_iadd x (nI (b + k)) dX7_isWord_34 (nI_add _ _) ?_
            refine V_callVi x (m_letter l D cI cZ cC cJ hM mTx mPg mLe mSz mLo mHi mDp mFu mFv mRw mBl mWy mFe ft ty wr cn pf mn tx (b + k) (by first | omega | assumption) (by first | omega | assumption)) 1 (gdV mlX7_61 imX7_letter seX7_letter inX7 coX7_letter) rfl hdX7_letter ⟨Nat.le_of_ble_eq_true rfl, Nat.le_of_ble_eq_true rfl⟩ ⟨rfl, rfl⟩ 0 rfl rfl rfl [0, 1] [(hM, .inr (7, [.int (nI ft), .int (nI ty), .ref mTx, .int (nI wr), .ref mPg, .int (nI cn), .ref mLe, .ref mSz, .int (nI pf), .ref mLo, .ref mHi, .ref mDp, .int (nI mn), .ref mFu, .ref mFv, .ref mRw, .ref mBl, .ref mWy, .ref mFe])), (mTx, .inl (cI, 60, .inl (fun i => nI (tx i))))] rfl rfl [hM, mTx] rfl rfl [some 0, some 1] rfl rfl (rest := []) rfl (Nat.le_of_ble_eq_true rfl) dX7_isWord_35 ⟨Nat.zero_le _, Nat.zero_le _⟩ ?_
            have J46 : V κ 0 0 [(hM, .inr (7, [.int (nI ft), .int (nI ty), .ref mTx, .int (nI wr), .ref mPg, .int (nI cn), .ref mLe, .ref mSz, .int (nI pf), .ref mLo, .ref mHi, .ref mDp, .int (nI mn), .ref mFu, .ref mFv, .ref mRw, .ref mBl, .ref mWy, .ref mFe])), (mTx, .inl (cI, 60, .inl (fun i => nI (tx i))))] 46 [(0, .ref hM), (1, .int (nI b)), (2, .int (nI n)), (3, .int (bI q)), (4, .int (nI k))] [.int (bI (decide (0 < mlt (tx (b + k)))))] := by
              refine V_istore_n x 3 [(3, .int (bI (decide (0 < mlt (tx (b + k)))))), (0, .ref hM), (1, .int (nI b)), (2, .int (nI n)), (4, .int (nI k))] dX7_isWord_46 rfl (by decide) rfl ?_
              refine V_iinc x 4 4 [(4, .int (nI (k + 1))), (3, .int (bI (decide (0 < mlt (tx (b + k)))))), (0, .ref hM), (1, .int (nI b)), (2, .int (nI n))] dX7_isWord_47 rfl (iinc_1 _) (by decide) rfl ?_
              refine V_goto x 20 dX7_isWord_50 rfl ?_
              refine V.sub [2, 3, 4, 1, 0] (lv' := [(0, .ref hM), (1, .int (nI b)), (2, .int (nI n)), (3, .int (bI ((decide (0 < mlt (tx (b + k))))))), (4, .int (nI ((k + 1))))]) rfl ?_
              exact ih20 (n - (k + 1)) (by omega) (k + 1) (decide (0 < mlt (tx (b + k)))) (by omega) (by rw [miw, e1, f27]; rfl) rfl
            refine V_if_leN x 45 dX7_isWord_38 rfl (fun t38 => ?_) (fun f38 => ?_) (by have := mlt_le (tx (b + k)); omega)
            · skip
              refine V_iconst (v := nI 0) x dX7_isWord_45 (by decide +kernel) ?_
              refine V.ci (x' := bI (decide (0 < mlt (tx (b + k))))) (by first | (rw [decide_eq_true (by omega)]; rfl) | (rw [decide_eq_false (by omega)]; rfl)) ?_
              exact J46
            · skip
              refine V_iconst (v := nI 1) x dX7_isWord_41 (by decide +kernel) ?_
              refine V_goto x 46 dX7_isWord_42 rfl ?_
              refine V.ci (x' := bI (decide (0 < mlt (tx (b + k))))) (by first | (rw [decide_eq_true (by omega)]; rfl) | (rw [decide_eq_false (by omega)]; rfl)) ?_
              exact J46
    refine V.sub [2, 3, 4, 1, 0] (lv' := [(0, .ref hM), (1, .int (nI b)), (2, .int (nI n)), (3, .int (bI ((decide (1 ≤ n ∧ n ≤ 7))))), (4, .int (nI 0))]) rfl ?_
    exact L20 _ 0 (decide (1 ≤ n ∧ n ≤ 7)) (by omega) rfl rfl
  refine V_icmp_ltN x 15 dX7_isWord_2 rfl (fun t2 => ?_) (fun f2 => ?_)
  · skip
    refine V_iconst (v := nI 0) x dX7_isWord_15 (by decide +kernel) ?_
    refine V.ci (x' := bI (decide (1 ≤ n ∧ n ≤ 7))) (by first | (rw [decide_eq_true (by omega)]; rfl) | (rw [decide_eq_false (by omega)]; rfl)) ?_
    exact J16
  · skip
    refine V_iload_n x 2 dX7_isWord_5 rfl rfl ?_
    refine V_bipush (v := nI 7) x dX7_isWord_6 (by decide +kernel) ?_
    refine V_icmp_gtN x 15 dX7_isWord_8 rfl (fun t8 => ?_) (fun f8 => ?_)
    · skip
      refine V_iconst (v := nI 0) x dX7_isWord_15 (by decide +kernel) ?_
      refine V.ci (x' := bI (decide (1 ≤ n ∧ n ≤ 7))) (by first | (rw [decide_eq_true (by omega)]; rfl) | (rw [decide_eq_false (by omega)]; rfl)) ?_
      exact J16
    · skip
      refine V_iconst (v := nI 1) x dX7_isWord_11 (by decide +kernel) ?_
      refine V_goto x 16 dX7_isWord_12 rfl ?_
      refine V.ci (x' := bI (decide (1 ≤ n ∧ n ≤ 7))) (by first | (rw [decide_eq_true (by omega)]; rfl) | (rw [decide_eq_false (by omega)]; rfl)) ?_
      exact J16
set_option maxHeartbeats 4000000 in
set_option maxRecDepth 100000 in
theorem m_compare (l : Launch) (D : va_G) (cI cZ cC cJ : ClassId) (hM mTx mPg mLe mSz mLo mHi mDp mFu mFv mRw mBl mWy mFe : Nat) (ft : Nat) (ty : Nat) (wr : Nat) (cn : Nat) (pf : Nat) (mn : Nat) (tx : Nat → Nat) (le : Nat → Nat) (sz : Nat → Nat) (b : Nat) (n : Nat) (w : Nat) (hb : b + n ≤ 60) (hw : w < 31) (htx : ∀ i, tx i < 65536) (hle : ∀ i, le i ≤ 8) (hsz : ∀ i, sz i ≤ 7) : CI l yX7_compare wsX7_compare { frames := 1, cells := 0, slots := 0, locals := 21 } D vwCl (tys4 cI cZ cC cJ) [.ref hM, .int (nI b), .int (nI n), .int (nI w)] [(hM, .inr (7, [.int (nI ft), .int (nI ty), .ref mTx, .int (nI wr), .ref mPg, .int (nI cn), .ref mLe, .ref mSz, .int (nI pf), .ref mLo, .ref mHi, .ref mDp, .int (nI mn), .ref mFu, .ref mFv, .ref mRw, .ref mBl, .ref mWy, .ref mFe])), (mTx, .inl (cI, 60, .inl (fun i => nI (tx i)))), (mLe, .inl (cI, 217, .inl (fun i => nI (le i)))), (mSz, .inl (cI, 31, .inl (fun i => nI (sz i))))] ((iI (mcp tx le sz b n w))) [(hM, .inr (7, [.int (nI ft), .int (nI ty), .ref mTx, .int (nI wr), .ref mPg, .int (nI cn), .ref mLe, .ref mSz, .int (nI pf), .ref mLo, .ref mHi, .ref mDp, .int (nI mn), .ref mFu, .ref mFv, .ref mRw, .ref mBl, .ref mWy, .ref mFe])), (mTx, .inl (cI, 60, .inl (fun i => nI (tx i)))), (mLe, .inl (cI, 217, .inl (fun i => nI (le i)))), (mSz, .inl (cI, 31, .inl (fun i => nI (sz i))))] := by
  refine CI.ofV rfl (by decide +kernel) rfl (Nat.le_of_ble_eq_true rfl) ?_
  intro κ x hret
  refine V_iconst (v := nI 0) x dX7_compare_0 (by decide +kernel) ?_
  refine V_istore x 4 [(4, .int (nI 0)), (0, .ref hM), (1, .int (nI b)), (2, .int (nI n)), (3, .int (nI w))] dX7_compare_1 (by decide) rfl ?_
  have hsw := hsz w
  have L3 : ∀ (k3 : Nat) (k : Nat) (hk : k ≤ 7) (e1 : mcm tx le b n w (sz w) (8 - k) k = mcp tx le sz b n w) (hk3 : 8 - k = k3), V κ 0 0 [(hM, .inr (7, [.int (nI ft), .int (nI ty), .ref mTx, .int (nI wr), .ref mPg, .int (nI cn), .ref mLe, .ref mSz, .int (nI pf), .ref mLo, .ref mHi, .ref mDp, .int (nI mn), .ref mFu, .ref mFv, .ref mRw, .ref mBl, .ref mWy, .ref mFe])), (mTx, .inl (cI, 60, .inl (fun i => nI (tx i)))), (mLe, .inl (cI, 217, .inl (fun i => nI (le i)))), (mSz, .inl (cI, 31, .inl (fun i => nI (sz i))))] 3 [(0, .ref hM), (1, .int (nI b)), (2, .int (nI n)), (3, .int (nI w)), (4, .int (nI k))] [] := by
    intro k3
    induction k3 using Nat.strongRecOn with
    | ind k3 ih3 =>
      intro k hk e1 hk3
      have hsw := hsz w
      refine V_iload x 4 dX7_compare_3 rfl ?_
      refine V_iload_n x 2 dX7_compare_5 rfl rfl ?_
      refine V_icmp_geN x 57 dX7_compare_6 rfl (fun t6 => ?_) (fun f6 => ?_)
      · skip
        refine V_iload_n x 2 dX7_compare_57 rfl rfl ?_
        refine V_aload_n x 0 dX7_compare_58 rfl rfl ?_
        refine V_get x 0 7 7 hinX7 rfl rfl (by decide) flX7_19 rfl dX7_compare_59 ?_
        refine V_iload_n x 3 dX7_compare_62 rfl rfl ?_
        refine V_iald x 3 0 rfl rfl dX7_compare_63 (by omega) (by omega) ?_
        refine V_isub x (iI ((n : Int) - sz w)) dX7_compare_64 (iI_sub (by omega) (by omega)) ?_
        refine V.ci (x' := iI (mcp tx le sz b n w)) (by rw [← e1, mcm_end (by omega)]) ?_
        exact hret _ _ dX7_compare_65
      · skip
        refine V_iload x 4 dX7_compare_9 rfl ?_
        refine V_aload_n x 0 dX7_compare_11 rfl rfl ?_
        refine V_get x 0 7 7 hinX7 rfl rfl (by decide) flX7_19 rfl dX7_compare_12 ?_
        refine V_iload_n x 3 dX7_compare_15 rfl rfl ?_
        refine V_iald x 3 0 rfl rfl dX7_compare_16 (by omega) (by omega) ?_
        refine V_icmp_geN x 57 dX7_compare_17 rfl (fun t17 => ?_) (fun f17 => ?_)
        · skip
          refine V_iload_n x 2 dX7_compare_57 rfl rfl ?_
          refine V_aload_n x 0 dX7_compare_58 rfl rfl ?_
          refine V_get x 0 7 7 hinX7 rfl rfl (by decide) flX7_19 rfl dX7_compare_59 ?_
          refine V_iload_n x 3 dX7_compare_62 rfl rfl ?_
          refine V_iald x 3 0 rfl rfl dX7_compare_63 (by omega) (by omega) ?_
          refine V_isub x (iI ((n : Int) - sz w)) dX7_compare_64 (iI_sub (by omega) (by omega)) ?_
          refine V.ci (x' := iI (mcp tx le sz b n w)) (by rw [← e1, mcm_end (by omega)]) ?_
          exact hret _ _ dX7_compare_65
        · skip
          have hlk := hle (7 * w + k)
          have hmk := mlt_le (tx (b + k))
          refine V_aload_n x 0 dX7_compare_20 rfl rfl ?_
          refine V_iload_n x 1 dX7_compare_21 rfl rfl ?_
          refine V_iload x 4 dX7_compare_22 rfl ?_
          refine V_iadd x (nI (b + k)) dX7_compare_24 (nI_add _ _) ?_
          refine V_callVi x (m_letter l D cI cZ cC cJ hM mTx mPg mLe mSz mLo mHi mDp mFu mFv mRw mBl mWy mFe ft ty wr cn pf mn tx (b + k) (by first | omega | assumption) (by first | omega | assumption)) 1 (gdV mlX7_61 imX7_letter seX7_letter inX7 coX7_letter) rfl hdX7_letter ⟨Nat.le_of_ble_eq_true rfl, Nat.le_of_ble_eq_true rfl⟩ ⟨rfl, rfl⟩ 0 rfl rfl rfl [0, 1] [(hM, .inr (7, [.int (nI ft), .int (nI ty), .ref mTx, .int (nI wr), .ref mPg, .int (nI cn), .ref mLe, .ref mSz, .int (nI pf), .ref mLo, .ref mHi, .ref mDp, .int (nI mn), .ref mFu, .ref mFv, .ref mRw, .ref mBl, .ref mWy, .ref mFe])), (mTx, .inl (cI, 60, .inl (fun i => nI (tx i)))), (mLe, .inl (cI, 217, .inl (fun i => nI (le i)))), (mSz, .inl (cI, 31, .inl (fun i => nI (sz i))))] rfl rfl [hM, mTx] rfl rfl [some 0, some 1] rfl rfl (rest := []) rfl (Nat.le_of_ble_eq_true rfl) dX7_compare_25 ⟨Nat.zero_le _, Nat.zero_le _⟩ ?_
          refine V_aload_n x 0 dX7_compare_28 rfl rfl ?_
          refine V_get x 0 7 6 hinX7 rfl rfl (by decide) flX7_16 rfl dX7_compare_29 ?_
          refine V_bipush (v := nI 7) x dX7_compare_32 (by decide +kernel) ?_
          refine V_iload_n x 3 dX7_compare_34 rfl rfl ?_
          refine V_imul x (nI (7 * w)) dX7_compare_35 (pk_mul _ _) ?_
          refine V_iload x 4 dX7_compare_36 rfl ?_
          refine V_iadd x (nI ((7 * w) + k)) dX7_compare_38 (nI_add _ _) ?_
          refine V_iald x 2 0 rfl rfl dX7_compare_39 (by omega) (by omega) ?_
          refine V_isub x (iI ((mlt (tx (b + k)) : Int) - le (7 * w + k))) dX7_compare_40 (iI_sub (by omega) (by omega)) ?_
          refine V_istore x 5 [(5, .int (iI ((mlt (tx (b + k)) : Int) - le (7 * w + k)))), (0, .ref hM), (1, .int (nI b)), (2, .int (nI n)), (3, .int (nI w)), (4, .int (nI k))] dX7_compare_41 (by decide) rfl ?_
          refine V_iload x 5 dX7_compare_43 rfl ?_
          refine V_if_eqI x 51 dX7_compare_45 rfl ⟨by omega, by omega⟩ (fun t45 => ?_) (fun f45 => ?_)
          · skip
            refine V_iinc x 4 5 [(4, .int (nI (k + 1))), (5, .int (iI ((mlt (tx (b + k)) : Int) - le (7 * w + k)))), (0, .ref hM), (1, .int (nI b)), (2, .int (nI n)), (3, .int (nI w))] dX7_compare_51 rfl (iinc_1 _) (by decide) rfl ?_
            refine V_goto x 3 dX7_compare_54 rfl ?_
            have hsw := hsz w
            refine V.sub [2, 3, 4, 5, 0] (lv' := [(0, .ref hM), (1, .int (nI b)), (2, .int (nI n)), (3, .int (nI w)), (4, .int (nI ((k + 1))))]) rfl ?_
            exact ih3 (8 - (k + 1)) (by omega) (k + 1) (by omega) (by rw [← e1, show 8 - k = (8 - (k + 1)) + 1 by omega]; exact (mcm_next ⟨by omega, by omega⟩ (by omega)).symm) rfl
          · skip
            refine V_iload x 5 dX7_compare_48 rfl ?_
            refine V.ci (x' := iI (mcp tx le sz b n w)) (by rw [← e1, show 8 - k = (8 - (k + 1)) + 1 by omega, mcm_out ⟨by omega, by omega⟩ (by omega)]) ?_
            exact hret _ _ dX7_compare_50
  refine V.sub [1, 2, 3, 4, 0] (lv' := [(0, .ref hM), (1, .int (nI b)), (2, .int (nI n)), (3, .int (nI w)), (4, .int (nI 0))]) rfl ?_
  exact L3 _ 0 (by omega) rfl rfl
set_option maxHeartbeats 4000000 in
set_option maxRecDepth 100000 in
theorem m_numberOf (l : Launch) (D : va_G) (cI cZ cC cJ : ClassId) (hM mTx mPg mLe mSz mLo mHi mDp mFu mFv mRw mBl mWy mFe : Nat) (ft : Nat) (ty : Nat) (wr : Nat) (cn : Nat) (pf : Nat) (mn : Nat) (tx : Nat → Nat) (le : Nat → Nat) (sz : Nat → Nat) (b : Nat) (n : Nat) (hb : b + n ≤ 60) (hcn : cn ≤ 30) (htx : ∀ i, tx i < 65536) (hle : ∀ i, le i ≤ 8) (hsz : ∀ i, sz i ≤ 7) : CI l yX7_numberOf wsX7_numberOf { frames := 2, cells := 0, slots := 0, locals := 46 } D vwCl (tys4 cI cZ cC cJ) [.ref hM, .int (nI b), .int (nI n)] [(hM, .inr (7, [.int (nI ft), .int (nI ty), .ref mTx, .int (nI wr), .ref mPg, .int (nI cn), .ref mLe, .ref mSz, .int (nI pf), .ref mLo, .ref mHi, .ref mDp, .int (nI mn), .ref mFu, .ref mFv, .ref mRw, .ref mBl, .ref mWy, .ref mFe])), (mTx, .inl (cI, 60, .inl (fun i => nI (tx i)))), (mLe, .inl (cI, 217, .inl (fun i => nI (le i)))), (mSz, .inl (cI, 31, .inl (fun i => nI (sz i))))] ((oN (mnb tx le sz cn b n))) [(hM, .inr (7, [.int (nI ft), .int (nI ty), .ref mTx, .int (nI wr), .ref mPg, .int (nI cn), .ref mLe, .ref mSz, .int (nI pf), .ref mLo, .ref mHi, .ref mDp, .int (nI mn), .ref mFu, .ref mFv, .ref mRw, .ref mBl, .ref mWy, .ref mFe])), (mTx, .inl (cI, 60, .inl (fun i => nI (tx i)))), (mLe, .inl (cI, 217, .inl (fun i => nI (le i)))), (mSz, .inl (cI, 31, .inl (fun i => nI (sz i))))] := by
  refine CI.ofV rfl (by decide +kernel) rfl (Nat.le_of_ble_eq_true rfl) ?_
  intro κ x hret
  refine V_iconst (v := (-1)) x dX7_numberOf_0 (by decide +kernel) ?_
  refine V_istore_n x 3 [(3, .int (-1)), (0, .ref hM), (1, .int (nI b)), (2, .int (nI n))] dX7_numberOf_1 rfl (by decide) rfl ?_
  refine V_iconst (v := nI 0) x dX7_numberOf_2 (by decide +kernel) ?_
  refine V_istore x 4 [(4, .int (nI 0)), (3, .int (-1)), (0, .ref hM), (1, .int (nI b)), (2, .int (nI n))] dX7_numberOf_3 (by decide) rfl ?_
  have L5 : ∀ (k5 : Nat) (k : Nat) (o1 : Option Nat) (hk : k ≤ cn) (hq : k = 0 ∨ miw tx b n n = true) (e1 : mno tx le sz b n k = o1) (hk5 : cn - k = k5), V κ 0 0 [(hM, .inr (7, [.int (nI ft), .int (nI ty), .ref mTx, .int (nI wr), .ref mPg, .int (nI cn), .ref mLe, .ref mSz, .int (nI pf), .ref mLo, .ref mHi, .ref mDp, .int (nI mn), .ref mFu, .ref mFv, .ref mRw, .ref mBl, .ref mWy, .ref mFe])), (mTx, .inl (cI, 60, .inl (fun i => nI (tx i)))), (mLe, .inl (cI, 217, .inl (fun i => nI (le i)))), (mSz, .inl (cI, 31, .inl (fun i => nI (sz i))))] 5 [(0, .ref hM), (1, .int (nI b)), (2, .int (nI n)), (3, .int (oN o1)), (4, .int (nI k))] [] := by
    intro k5
    induction k5 using Nat.strongRecOn with
    | ind k5 ih5 =>
      intro k o1 hk hq e1 hk5
      refine V_iload x 4 dX7_numberOf_5 rfl ?_
      refine V_aload_n x 0 dX7_numberOf_7 rfl rfl ?_
      refine V_get x 0 7 5 hinX7 rfl rfl (by decide) flX7_65 rfl dX7_numberOf_8 ?_
      refine V_icmp_geN x 47 dX7_numberOf_11 rfl (fun t11 => ?_) (fun f11 => ?_)
      · skip
        refine V_iload_n x 3 dX7_numberOf_47 rfl rfl ?_
        refine V.ci (x' := oN (mnb tx le sz cn b n)) (by first | (rw [mnb_end (cn := cn) hq e1 (Or.inr t20)]; done) | (rw [mnb_end (cn := cn) hq e1 (Or.inl (Nat.le_antisymm hk t11))])) ?_
        exact hret _ _ dX7_numberOf_48
      · skip
        refine V_aload_n x 0 dX7_numberOf_14 rfl rfl ?_
        refine V_iload_n x 1 dX7_numberOf_15 rfl rfl ?_
        refine V_iload_n x 2 dX7_numberOf_16 rfl rfl ?_
        refine V_callVi x (m_isWord l D cI cZ cC cJ hM mTx mPg mLe mSz mLo mHi mDp mFu mFv mRw mBl mWy mFe ft ty wr cn pf mn tx b n (by first | omega | assumption) (by first | omega | assumption)) 2 (gdV mlX7_68 imX7_isWord seX7_isWord inX7 coX7_isWord) rfl hdX7_isWord ⟨Nat.le_of_ble_eq_true rfl, Nat.le_of_ble_eq_true rfl⟩ ⟨rfl, rfl⟩ 0 rfl rfl rfl [0, 1] [(hM, .inr (7, [.int (nI ft), .int (nI ty), .ref mTx, .int (nI wr), .ref mPg, .int (nI cn), .ref mLe, .ref mSz, .int (nI pf), .ref mLo, .ref mHi, .ref mDp, .int (nI mn), .ref mFu, .ref mFv, .ref mRw, .ref mBl, .ref mWy, .ref mFe])), (mTx, .inl (cI, 60, .inl (fun i => nI (tx i)))), (mLe, .inl (cI, 217, .inl (fun i => nI (le i)))), (mSz, .inl (cI, 31, .inl (fun i => nI (sz i))))] rfl rfl [hM, mTx] rfl rfl [some 0, some 1] rfl rfl (rest := []) rfl (Nat.le_of_ble_eq_true rfl) dX7_numberOf_17 ⟨Nat.zero_le _, Nat.zero_le _⟩ ?_
        refine V_if_eqB x 47 dX7_numberOf_20 rfl (fun t20 => ?_) (fun f20 => ?_)
        · skip
          refine V_iload_n x 3 dX7_numberOf_47 rfl rfl ?_
          refine V.ci (x' := oN (mnb tx le sz cn b n)) (by first | (rw [mnb_end (cn := cn) hq e1 (Or.inr t20)]; done) | (rw [mnb_end (cn := cn) hq e1 (Or.inl (Nat.le_antisymm hk t11))])) ?_
          exact hret _ _ dX7_numberOf_48
        · skip
          refine V_aload_n x 0 dX7_numberOf_23 rfl rfl ?_
          refine V_iload_n x 1 dX7_numberOf_24 rfl rfl ?_
          refine V_iload_n x 2 dX7_numberOf_25 rfl rfl ?_
          refine V_iload x 4 dX7_numberOf_26 rfl ?_
          refine V_callVi x (m_compare l D cI cZ cC cJ hM mTx mPg mLe mSz mLo mHi mDp mFu mFv mRw mBl mWy mFe ft ty wr cn pf mn tx le sz b n k (by first | omega | assumption) (by first | omega | assumption) (by first | omega | assumption) (by first | omega | assumption) (by first | omega | assumption)) 3 (gdV mlX7_72 imX7_compare seX7_compare inX7 coX7_compare) rfl hdX7_compare ⟨Nat.le_of_ble_eq_true rfl, Nat.le_of_ble_eq_true rfl⟩ ⟨rfl, rfl⟩ 0 rfl rfl rfl [0, 1, 2, 3] [(hM, .inr (7, [.int (nI ft), .int (nI ty), .ref mTx, .int (nI wr), .ref mPg, .int (nI cn), .ref mLe, .ref mSz, .int (nI pf), .ref mLo, .ref mHi, .ref mDp, .int (nI mn), .ref mFu, .ref mFv, .ref mRw, .ref mBl, .ref mWy, .ref mFe])), (mTx, .inl (cI, 60, .inl (fun i => nI (tx i)))), (mLe, .inl (cI, 217, .inl (fun i => nI (le i)))), (mSz, .inl (cI, 31, .inl (fun i => nI (sz i))))] rfl rfl [hM, mTx, mLe, mSz] rfl rfl [some 0, some 1, some 2, some 3] rfl rfl (rest := []) rfl (Nat.le_of_ble_eq_true rfl) dX7_numberOf_28 ⟨Nat.zero_le _, Nat.zero_le _⟩ ?_
          have J40 : V κ 0 0 [(hM, .inr (7, [.int (nI ft), .int (nI ty), .ref mTx, .int (nI wr), .ref mPg, .int (nI cn), .ref mLe, .ref mSz, .int (nI pf), .ref mLo, .ref mHi, .ref mDp, .int (nI mn), .ref mFu, .ref mFv, .ref mRw, .ref mBl, .ref mWy, .ref mFe])), (mTx, .inl (cI, 60, .inl (fun i => nI (tx i)))), (mLe, .inl (cI, 217, .inl (fun i => nI (le i)))), (mSz, .inl (cI, 31, .inl (fun i => nI (sz i))))] 40 [(0, .ref hM), (1, .int (nI b)), (2, .int (nI n)), (3, .int (oN o1)), (4, .int (nI k))] [.int (oN (if mcp tx le sz b n k = 0 then some k else o1))] := by
            refine V_istore_n x 3 [(3, .int (oN (if mcp tx le sz b n k = 0 then some k else o1))), (0, .ref hM), (1, .int (nI b)), (2, .int (nI n)), (4, .int (nI k))] dX7_numberOf_40 rfl (by decide) rfl ?_
            refine V_iinc x 4 4 [(4, .int (nI (k + 1))), (3, .int (oN (if mcp tx le sz b n k = 0 then some k else o1))), (0, .ref hM), (1, .int (nI b)), (2, .int (nI n))] dX7_numberOf_41 rfl (iinc_1 _) (by decide) rfl ?_
            refine V_goto x 5 dX7_numberOf_44 rfl ?_
            refine V.sub [2, 3, 4, 1, 0] (lv' := [(0, .ref hM), (1, .int (nI b)), (2, .int (nI n)), (3, .int (oN ((if mcp tx le sz b n k = 0 then some k else o1)))), (4, .int (nI ((k + 1))))]) rfl ?_
            exact ih5 (cn - (k + 1)) (by omega) (k + 1) (if mcp tx le sz b n k = 0 then some k else o1) (by omega) (Or.inr f20) (by rw [mno, e1]) rfl
          refine V_if_neI x 39 dX7_numberOf_31 rfl (mcm_le (by omega) (hsz k) hle 8 0) (fun t31 => ?_) (fun f31 => ?_)
          · skip
            refine V_iload_n x 3 dX7_numberOf_39 rfl rfl ?_
            refine V.ci (x' := oN (if mcp tx le sz b n k = 0 then some k else o1)) (by first | (rw [if_pos f31]; rfl) | (rw [if_neg t31])) ?_
            exact J40
          · skip
            refine V_iload x 4 dX7_numberOf_34 rfl ?_
            refine V_goto x 40 dX7_numberOf_36 rfl ?_
            refine V.ci (x' := oN (if mcp tx le sz b n k = 0 then some k else o1)) (by first | (rw [if_pos f31]; rfl) | (rw [if_neg t31])) ?_
            exact J40
  refine V.sub [2, 3, 4, 1, 0] (lv' := [(0, .ref hM), (1, .int (nI b)), (2, .int (nI n)), (3, .int (oN none)), (4, .int (nI 0))]) rfl ?_
  exact L5 _ 0 none (by omega) (Or.inl rfl) rfl rfl
set_option maxHeartbeats 4000000 in
set_option maxRecDepth 100000 in
theorem m_beginsWith (l : Launch) (D : va_G) (cI cZ cC cJ : ClassId) (hM mTx mPg mLe mSz mLo mHi mDp mFu mFv mRw mBl mWy mFe : Nat) (ft : Nat) (ty : Nat) (wr : Nat) (cn : Nat) (pf : Nat) (mn : Nat) (tx : Nat → Nat) (le : Nat → Nat) (sz : Nat → Nat) (w : Nat) (n : Nat) (hw : w < 31) (hn : n ≤ 60) (htx : ∀ i, tx i < 65536) (hle : ∀ i, le i ≤ 8) (hsz : ∀ i, sz i ≤ 7) : CI l yX7_beginsWith wsX7_beginsWith { frames := 1, cells := 0, slots := 0, locals := 21 } D vwCl (tys4 cI cZ cC cJ) [.ref hM, .int (nI w), .int (nI n)] [(hM, .inr (7, [.int (nI ft), .int (nI ty), .ref mTx, .int (nI wr), .ref mPg, .int (nI cn), .ref mLe, .ref mSz, .int (nI pf), .ref mLo, .ref mHi, .ref mDp, .int (nI mn), .ref mFu, .ref mFv, .ref mRw, .ref mBl, .ref mWy, .ref mFe])), (mTx, .inl (cI, 60, .inl (fun i => nI (tx i)))), (mLe, .inl (cI, 217, .inl (fun i => nI (le i)))), (mSz, .inl (cI, 31, .inl (fun i => nI (sz i))))] ((bI (mbw tx le w n (sz w) n))) [(hM, .inr (7, [.int (nI ft), .int (nI ty), .ref mTx, .int (nI wr), .ref mPg, .int (nI cn), .ref mLe, .ref mSz, .int (nI pf), .ref mLo, .ref mHi, .ref mDp, .int (nI mn), .ref mFu, .ref mFv, .ref mRw, .ref mBl, .ref mWy, .ref mFe])), (mTx, .inl (cI, 60, .inl (fun i => nI (tx i)))), (mLe, .inl (cI, 217, .inl (fun i => nI (le i)))), (mSz, .inl (cI, 31, .inl (fun i => nI (sz i))))] := by
  refine CI.ofV (nar_bI2 _) (by decide +kernel) rfl (Nat.le_of_ble_eq_true rfl) ?_
  intro κ x hret
  have hsw := hsz w
  refine V_iload_n x 2 dX7_beginsWith_0 rfl rfl ?_
  refine V_aload_n x 0 dX7_beginsWith_1 rfl rfl ?_
  refine V_get x 0 7 7 hinX7 rfl rfl (by decide) flX7_19 rfl dX7_beginsWith_2 ?_
  refine V_iload_n x 1 dX7_beginsWith_5 rfl rfl ?_
  refine V_iald x 3 0 rfl rfl dX7_beginsWith_6 (by omega) (by omega) ?_
  have J15 : V κ 0 0 [(hM, .inr (7, [.int (nI ft), .int (nI ty), .ref mTx, .int (nI wr), .ref mPg, .int (nI cn), .ref mLe, .ref mSz, .int (nI pf), .ref mLo, .ref mHi, .ref mDp, .int (nI mn), .ref mFu, .ref mFv, .ref mRw, .ref mBl, .ref mWy, .ref mFe])), (mTx, .inl (cI, 60, .inl (fun i => nI (tx i)))), (mLe, .inl (cI, 217, .inl (fun i => nI (le i)))), (mSz, .inl (cI, 31, .inl (fun i => nI (sz i))))] 15 [(0, .ref hM), (1, .int (nI w)), (2, .int (nI n))] [.int (bI (decide (n ≤ sz w)))] := by
    refine V_istore_n x 3 [(3, .int (bI (decide (n ≤ sz w)))), (0, .ref hM), (1, .int (nI w)), (2, .int (nI n))] dX7_beginsWith_15 rfl (by decide) rfl ?_
    refine V_iconst (v := nI 0) x dX7_beginsWith_16 (by decide +kernel) ?_
    refine V_istore x 4 [(4, .int (nI 0)), (3, .int (bI (decide (n ≤ sz w)))), (0, .ref hM), (1, .int (nI w)), (2, .int (nI n))] dX7_beginsWith_17 (by decide) rfl ?_
    have L19 : ∀ (k19 : Nat) (k : Nat) (q : Bool) (hk : k ≤ n) (e1 : mbw tx le w n (sz w) k = q) (hk19 : n - k = k19), V κ 0 0 [(hM, .inr (7, [.int (nI ft), .int (nI ty), .ref mTx, .int (nI wr), .ref mPg, .int (nI cn), .ref mLe, .ref mSz, .int (nI pf), .ref mLo, .ref mHi, .ref mDp, .int (nI mn), .ref mFu, .ref mFv, .ref mRw, .ref mBl, .ref mWy, .ref mFe])), (mTx, .inl (cI, 60, .inl (fun i => nI (tx i)))), (mLe, .inl (cI, 217, .inl (fun i => nI (le i)))), (mSz, .inl (cI, 31, .inl (fun i => nI (sz i))))] 19 [(0, .ref hM), (1, .int (nI w)), (2, .int (nI n)), (3, .int (bI q)), (4, .int (nI k))] [] := by
      intro k19
      induction k19 using Nat.strongRecOn with
      | ind k19 ih19 =>
        intro k q hk e1 hk19
        refine V_iload x 4 dX7_beginsWith_19 rfl ?_
        refine V_iload_n x 2 dX7_beginsWith_21 rfl rfl ?_
        refine V_icmp_geN x 62 dX7_beginsWith_22 rfl (fun t22 => ?_) (fun f22 => ?_)
        · skip
          refine V_iload_n x 3 dX7_beginsWith_62 rfl rfl ?_
          refine V.ci (x' := bI (mbw tx le w n (sz w) n)) (by first | (rw [← e1, show k = n by omega]; done) | (rw [mbw_false (e1.trans t26) (show k ≤ n by omega), t26])) ?_
          exact hret _ _ dX7_beginsWith_63
        · skip
          refine V_iload_n x 3 dX7_beginsWith_25 rfl rfl ?_
          refine V_if_eqB x 62 dX7_beginsWith_26 rfl (fun t26 => ?_) (fun f26 => ?_)
          · skip
            refine V_iload_n x 3 dX7_beginsWith_62 rfl rfl ?_
            refine V.ci (x' := bI (mbw tx le w n (sz w) n)) (by first | (rw [← e1, show k = n by omega]; done) | (rw [mbw_false (e1.trans t26) (show k ≤ n by omega), t26])) ?_
            exact hret _ _ dX7_beginsWith_63
          · skip
            have hns := mbw_n (e1.trans f26)
            have hlk := hle (7 * w + k)
            have hmk := mlt_le (tx k)
            refine V_aload_n x 0 dX7_beginsWith_29 rfl rfl ?_
            refine V_get x 0 7 6 hinX7 rfl rfl (by decide) flX7_16 rfl dX7_beginsWith_30 ?_
            refine V_bipush (v := nI 7) x dX7_beginsWith_33 (by decide +kernel) ?_
            refine V_iload_n x 1 dX7_beginsWith_35 rfl rfl ?_
            refine V_imul x (nI (7 * w)) dX7_beginsWith_36 (pk_mul _ _) ?_
            refine V_iload x 4 dX7_beginsWith_37 rfl ?_
            refine V_iadd x (nI ((7 * w) + k)) dX7_beginsWith_39 (nI_add _ _) ?_
            refine V_iald x 2 0 rfl rfl dX7_beginsWith_40 (by omega) (by omega) ?_
            refine V_aload_n x 0 dX7_beginsWith_41 rfl rfl ?_
            refine V_iload x 4 dX7_beginsWith_42 rfl ?_
            refine V_callVi x (m_letter l D cI cZ cC cJ hM mTx mPg mLe mSz mLo mHi mDp mFu mFv mRw mBl mWy mFe ft ty wr cn pf mn tx k (by first | omega | assumption) (by first | omega | assumption)) 1 (gdV mlX7_61 imX7_letter seX7_letter inX7 coX7_letter) rfl hdX7_letter ⟨Nat.le_of_ble_eq_true rfl, Nat.le_of_ble_eq_true rfl⟩ ⟨rfl, rfl⟩ 0 rfl rfl rfl [0, 1] [(hM, .inr (7, [.int (nI ft), .int (nI ty), .ref mTx, .int (nI wr), .ref mPg, .int (nI cn), .ref mLe, .ref mSz, .int (nI pf), .ref mLo, .ref mHi, .ref mDp, .int (nI mn), .ref mFu, .ref mFv, .ref mRw, .ref mBl, .ref mWy, .ref mFe])), (mTx, .inl (cI, 60, .inl (fun i => nI (tx i)))), (mLe, .inl (cI, 217, .inl (fun i => nI (le i)))), (mSz, .inl (cI, 31, .inl (fun i => nI (sz i))))] rfl rfl [hM, mTx] rfl rfl [some 0, some 1] rfl rfl (rest := [.int (nI (le ((7 * w) + k)))]) rfl (Nat.le_of_ble_eq_true rfl) dX7_beginsWith_44 ⟨Nat.zero_le _, Nat.zero_le _⟩ ?_
            have J55 : V κ 0 0 [(hM, .inr (7, [.int (nI ft), .int (nI ty), .ref mTx, .int (nI wr), .ref mPg, .int (nI cn), .ref mLe, .ref mSz, .int (nI pf), .ref mLo, .ref mHi, .ref mDp, .int (nI mn), .ref mFu, .ref mFv, .ref mRw, .ref mBl, .ref mWy, .ref mFe])), (mTx, .inl (cI, 60, .inl (fun i => nI (tx i)))), (mLe, .inl (cI, 217, .inl (fun i => nI (le i)))), (mSz, .inl (cI, 31, .inl (fun i => nI (sz i))))] 55 [(0, .ref hM), (1, .int (nI w)), (2, .int (nI n)), (3, .int (bI q)), (4, .int (nI k))] [.int (bI (decide (le (7 * w + k) = mlt (tx k))))] := by
              refine V_istore_n x 3 [(3, .int (bI (decide (le (7 * w + k) = mlt (tx k))))), (0, .ref hM), (1, .int (nI w)), (2, .int (nI n)), (4, .int (nI k))] dX7_beginsWith_55 rfl (by decide) rfl ?_
              refine V_iinc x 4 4 [(4, .int (nI (k + 1))), (3, .int (bI (decide (le (7 * w + k) = mlt (tx k))))), (0, .ref hM), (1, .int (nI w)), (2, .int (nI n))] dX7_beginsWith_56 rfl (iinc_1 _) (by decide) rfl ?_
              refine V_goto x 19 dX7_beginsWith_59 rfl ?_
              refine V.sub [2, 3, 4, 1, 0] (lv' := [(0, .ref hM), (1, .int (nI w)), (2, .int (nI n)), (3, .int (bI ((decide (le (7 * w + k) = mlt (tx k)))))), (4, .int (nI ((k + 1))))]) rfl ?_
              exact ih19 (n - (k + 1)) (by omega) (k + 1) (decide (le (7 * w + k) = mlt (tx k))) (by omega) (by rw [mbw, e1, f26]; rfl) rfl
            refine V_icmp_neN x 54 dX7_beginsWith_47 rfl (fun t47 => ?_) (fun f47 => ?_)
            · skip
              refine V_iconst (v := nI 0) x dX7_beginsWith_54 (by decide +kernel) ?_
              refine V.ci (x' := bI (decide (le (7 * w + k) = mlt (tx k)))) (by first | (rw [decide_eq_true (by omega)]; rfl) | (rw [decide_eq_false (by omega)]; rfl)) ?_
              exact J55
            · skip
              refine V_iconst (v := nI 1) x dX7_beginsWith_50 (by decide +kernel) ?_
              refine V_goto x 55 dX7_beginsWith_51 rfl ?_
              refine V.ci (x' := bI (decide (le (7 * w + k) = mlt (tx k)))) (by first | (rw [decide_eq_true (by omega)]; rfl) | (rw [decide_eq_false (by omega)]; rfl)) ?_
              exact J55
    refine V.sub [2, 3, 4, 1, 0] (lv' := [(0, .ref hM), (1, .int (nI w)), (2, .int (nI n)), (3, .int (bI ((decide (n ≤ sz w))))), (4, .int (nI 0))]) rfl ?_
    exact L19 _ 0 (decide (n ≤ sz w)) (by omega) rfl rfl
  refine V_icmp_gtN x 14 dX7_beginsWith_7 rfl (fun t7 => ?_) (fun f7 => ?_)
  · skip
    refine V_iconst (v := nI 0) x dX7_beginsWith_14 (by decide +kernel) ?_
    refine V.ci (x' := bI (decide (n ≤ sz w))) (by first | (rw [decide_eq_true (by omega)]; rfl) | (rw [decide_eq_false (by omega)]; rfl)) ?_
    exact J15
  · skip
    refine V_iconst (v := nI 1) x dX7_beginsWith_10 (by decide +kernel) ?_
    refine V_goto x 15 dX7_beginsWith_11 rfl ?_
    refine V.ci (x' := bI (decide (n ≤ sz w))) (by first | (rw [decide_eq_true (by omega)]; rfl) | (rw [decide_eq_false (by omega)]; rfl)) ?_
    exact J15
set_option maxHeartbeats 4000000 in
set_option maxRecDepth 100000 in
theorem m_move (l : Launch) (D : va_G) (cI cZ cC cJ : ClassId) (hM mTx mPg mLe mSz mLo mHi mDp mFu mFv mRw mBl mWy mFe : Nat) (ft : Nat) (ty : Nat) (wr : Nat) (cn : Nat) (pf : Nat) (mn : Nat) (le : Nat → Nat) (sz : Nat → Nat) (t : Nat) (f : Nat) (ht : t < 31) (hf : f < 31) : CV l yX7_move wsX7_move { frames := 0, cells := 0, slots := 0, locals := 0 } D vwCl (tys4 cI cZ cC cJ) [.ref hM, .int (nI t), .int (nI f)] [(hM, .inr (7, [.int (nI ft), .int (nI ty), .ref mTx, .int (nI wr), .ref mPg, .int (nI cn), .ref mLe, .ref mSz, .int (nI pf), .ref mLo, .ref mHi, .ref mDp, .int (nI mn), .ref mFu, .ref mFv, .ref mRw, .ref mBl, .ref mWy, .ref mFe])), (mLe, .inl (cI, 217, .inl (fun i => nI (le i)))), (mSz, .inl (cI, 31, .inl (fun i => nI (sz i))))] [(hM, .inr (7, [.int (nI ft), .int (nI ty), .ref mTx, .int (nI wr), .ref mPg, .int (nI cn), .ref mLe, .ref mSz, .int (nI pf), .ref mLo, .ref mHi, .ref mDp, .int (nI mn), .ref mFu, .ref mFv, .ref mRw, .ref mBl, .ref mWy, .ref mFe])), (mLe, .inl (cI, 217, .inl (fun i => nI ((mvl le t f 7) i)))), (mSz, .inl (cI, 31, .inl (fun i => nI ((va_up sz t (sz f)) i))))] := by
  refine CV.ofV (by decide +kernel) rfl (Nat.le_of_ble_eq_true rfl) ?_
  intro κ x hret
  refine V_aload_n x 0 dX7_move_0 rfl rfl ?_
  refine V_get x 0 7 7 hinX7 rfl rfl (by decide) flX7_19 rfl dX7_move_1 ?_
  refine V_iload_n x 1 dX7_move_4 rfl rfl ?_
  refine V_aload_n x 0 dX7_move_5 rfl rfl ?_
  refine V_get x 0 7 7 hinX7 rfl rfl (by decide) flX7_19 rfl dX7_move_6 ?_
  refine V_iload_n x 2 dX7_move_9 rfl rfl ?_
  refine V_iald x 2 0 rfl rfl dX7_move_10 (by omega) (by omega) ?_
  refine V_iast x 2 0 nI sz (sz f) [(hM, .inr (7, [.int (nI ft), .int (nI ty), .ref mTx, .int (nI wr), .ref mPg, .int (nI cn), .ref mLe, .ref mSz, .int (nI pf), .ref mLo, .ref mHi, .ref mDp, .int (nI mn), .ref mFu, .ref mFv, .ref mRw, .ref mBl, .ref mWy, .ref mFe])), (mLe, .inl (cI, 217, .inl (fun i => nI (le i)))), (mSz, .inl (cI, 31, .inl (fun i => nI ((va_up sz t (sz f)) i))))] rfl rfl dX7_move_11 (by omega) (by omega) rfl ?_
  refine V_iconst (v := nI 0) x dX7_move_12 (by decide +kernel) ?_
  refine V_istore_n x 3 [(3, .int (nI 0)), (0, .ref hM), (1, .int (nI t)), (2, .int (nI f))] dX7_move_13 rfl (by decide) rfl ?_
  have L14 : ∀ (k14 : Nat) (k : Nat) (le1 : Nat → Nat) (hk : k ≤ 7) (e1 : mvl le t f k = le1) (hk14 : 7 - k = k14), V κ 0 0 [(hM, .inr (7, [.int (nI ft), .int (nI ty), .ref mTx, .int (nI wr), .ref mPg, .int (nI cn), .ref mLe, .ref mSz, .int (nI pf), .ref mLo, .ref mHi, .ref mDp, .int (nI mn), .ref mFu, .ref mFv, .ref mRw, .ref mBl, .ref mWy, .ref mFe])), (mLe, .inl (cI, 217, .inl (fun i => nI (le1 i)))), (mSz, .inl (cI, 31, .inl (fun i => nI ((va_up sz t (sz f)) i))))] 14 [(0, .ref hM), (1, .int (nI t)), (2, .int (nI f)), (3, .int (nI k))] [] := by
    intro k14
    induction k14 using Nat.strongRecOn with
    | ind k14 ih14 =>
      intro k le1 hk e1 hk14
      refine V_iload_n x 3 dX7_move_14 rfl rfl ?_
      refine V_bipush (v := nI 7) x dX7_move_15 (by decide +kernel) ?_
      refine V_icmp_geN x 48 dX7_move_17 rfl (fun t17 => ?_) (fun f17 => ?_)
      · skip
        obtain rfl : k = 7 := by omega
        rw [e1] at hret
        exact hret _ _ dX7_move_48
      · skip
        refine V_aload_n x 0 dX7_move_20 rfl rfl ?_
        refine V_get x 0 7 6 hinX7 rfl rfl (by decide) flX7_16 rfl dX7_move_21 ?_
        refine V_bipush (v := nI 7) x dX7_move_24 (by decide +kernel) ?_
        refine V_iload_n x 1 dX7_move_26 rfl rfl ?_
        refine V_imul x (nI (7 * t)) dX7_move_27 (pk_mul _ _) ?_
        refine V_iload_n x 3 dX7_move_28 rfl rfl ?_
        refine V_iadd x (nI ((7 * t) + k)) dX7_move_29 (nI_add _ _) ?_
        refine V_aload_n x 0 dX7_move_30 rfl rfl ?_
        refine V_get x 0 7 6 hinX7 rfl rfl (by decide) flX7_16 rfl dX7_move_31 ?_
        refine V_bipush (v := nI 7) x dX7_move_34 (by decide +kernel) ?_
        refine V_iload_n x 2 dX7_move_36 rfl rfl ?_
        refine V_imul x (nI (7 * f)) dX7_move_37 (pk_mul _ _) ?_
        refine V_iload_n x 3 dX7_move_38 rfl rfl ?_
        refine V_iadd x (nI ((7 * f) + k)) dX7_move_39 (nI_add _ _) ?_
        refine V_iald x 1 0 rfl rfl dX7_move_40 (by omega) (by omega) ?_
        refine V_iast x 1 0 nI le1 (le1 ((7 * f) + k)) [(hM, .inr (7, [.int (nI ft), .int (nI ty), .ref mTx, .int (nI wr), .ref mPg, .int (nI cn), .ref mLe, .ref mSz, .int (nI pf), .ref mLo, .ref mHi, .ref mDp, .int (nI mn), .ref mFu, .ref mFv, .ref mRw, .ref mBl, .ref mWy, .ref mFe])), (mLe, .inl (cI, 217, .inl (fun i => nI ((va_up le1 ((7 * t) + k) (le1 ((7 * f) + k))) i)))), (mSz, .inl (cI, 31, .inl (fun i => nI ((va_up sz t (sz f)) i))))] rfl rfl dX7_move_41 (by omega) (by omega) rfl ?_
        refine V_iinc x 3 3 [(3, .int (nI (k + 1))), (0, .ref hM), (1, .int (nI t)), (2, .int (nI f))] dX7_move_42 rfl (iinc_1 _) (by decide) rfl ?_
        refine V_goto x 14 dX7_move_45 rfl ?_
        refine V.sub [1, 2, 3, 0] (lv' := [(0, .ref hM), (1, .int (nI t)), (2, .int (nI f)), (3, .int (nI ((k + 1))))]) rfl ?_
        exact ih14 (7 - (k + 1)) (by omega) (k + 1) (va_up le1 ((7 * t) + k) (le1 ((7 * f) + k))) (by omega) (by rw [mvl, e1]) rfl
  refine V.sub [1, 2, 3, 0] (lv' := [(0, .ref hM), (1, .int (nI t)), (2, .int (nI f)), (3, .int (nI 0))]) rfl ?_
  exact L14 _ 0 le (by omega) rfl rfl
set_option maxHeartbeats 4000000 in
set_option maxRecDepth 100000 in
theorem m_print (l : Launch) (D : va_G) (cI cZ cC cJ : ClassId) (hM mTx mPg mLe mSz mLo mHi mDp mFu mFv mRw mBl mWy mFe : Nat) (ft : Nat) (ty : Nat) (wr : Nat) (cn : Nat) (pf : Nat) (mn : Nat) (pg : Nat → Nat) (c : Nat) (hw : wr < 120) : CV l yX7_print wsX7_print { frames := 0, cells := 0, slots := 0, locals := 0 } D vwCl (tys4 cI cZ cC cJ) [.ref hM, .int (nI c)] [(hM, .inr (7, [.int (nI ft), .int (nI ty), .ref mTx, .int (nI wr), .ref mPg, .int (nI cn), .ref mLe, .ref mSz, .int (nI pf), .ref mLo, .ref mHi, .ref mDp, .int (nI mn), .ref mFu, .ref mFv, .ref mRw, .ref mBl, .ref mWy, .ref mFe])), (mPg, .inl (cI, 120, .inl (fun i => nI (pg i))))] [(hM, .inr (7, [.int (nI ft), .int (nI ty), .ref mTx, .int (nI (wr + 1)), .ref mPg, .int (nI cn), .ref mLe, .ref mSz, .int (nI pf), .ref mLo, .ref mHi, .ref mDp, .int (nI mn), .ref mFu, .ref mFv, .ref mRw, .ref mBl, .ref mWy, .ref mFe])), (mPg, .inl (cI, 120, .inl (fun i => nI ((va_up pg wr c) i))))] := by
  refine CV.ofV (by decide +kernel) rfl (Nat.le_of_ble_eq_true rfl) ?_
  intro κ x hret
  refine V_aload_n x 0 dX7_print_0 rfl rfl ?_
  refine V_get x 0 7 4 hinX7 rfl rfl (by decide) flX7_13 rfl dX7_print_1 ?_
  refine V_aload_n x 0 dX7_print_4 rfl rfl ?_
  refine V_get x 0 7 3 hinX7 rfl rfl (by decide) flX7_87 rfl dX7_print_5 ?_
  refine V_iload_n x 1 dX7_print_8 rfl rfl ?_
  refine V_iast x 1 0 nI pg c [(hM, .inr (7, [.int (nI ft), .int (nI ty), .ref mTx, .int (nI wr), .ref mPg, .int (nI cn), .ref mLe, .ref mSz, .int (nI pf), .ref mLo, .ref mHi, .ref mDp, .int (nI mn), .ref mFu, .ref mFv, .ref mRw, .ref mBl, .ref mWy, .ref mFe])), (mPg, .inl (cI, 120, .inl (fun i => nI ((va_up pg wr c) i))))] rfl rfl dX7_print_9 (by omega) (by omega) rfl ?_
  refine V_aload_n x 0 dX7_print_10 rfl rfl ?_
  refine V_dup x dX7_print_11 rfl ?_
  refine V_get x 0 7 3 hinX7 rfl rfl (by decide) flX7_87 rfl dX7_print_12 ?_
  refine V_iconst (v := nI 1) x dX7_print_15 (by decide +kernel) ?_
  refine V_iadd x (nI (wr + 1)) dX7_print_16 (nI_add _ _) ?_
  refine V_put (ty := .int) x 0 7 3 [(hM, .inr (7, [.int (nI ft), .int (nI ty), .ref mTx, .int (nI (wr + 1)), .ref mPg, .int (nI cn), .ref mLe, .ref mSz, .int (nI pf), .ref mLo, .ref mHi, .ref mDp, .int (nI mn), .ref mFu, .ref mFv, .ref mRw, .ref mBl, .ref mWy, .ref mFe])), (mPg, .inl (cI, 120, .inl (fun i => nI ((va_up pg wr c) i))))] hinX7 tyX7 tyX7_ok nmX7 rfl rfl (by decide) flX7_87 rfl (by decide +kernel) rfl rfl (Nat.le_of_ble_eq_true rfl) rfl dX7_print_17 ?_
  exact hret _ _ dX7_print_20
set_option maxHeartbeats 4000000 in
set_option maxRecDepth 100000 in
theorem m_printWord (l : Launch) (D : va_G) (cI cZ cC cJ : ClassId) (hM mTx mPg mLe mSz mLo mHi mDp mFu mFv mRw mBl mWy mFe : Nat) (ft : Nat) (ty : Nat) (wr : Nat) (cn : Nat) (pf : Nat) (mn : Nat) (pg : Nat → Nat) (le : Nat → Nat) (sz : Nat → Nat) (w : Nat) (hw : w < 31) (hle : ∀ i, le i ≤ 8) (hsz : ∀ i, sz i ≤ 7) (hwr : wr + sz w ≤ 120) (hl1 : ∀ k, k < sz w → 1 ≤ le (7 * w + k)) : CV l yX7_printWord wsX7_printWord { frames := 1, cells := 0, slots := 0, locals := 21 } D vwCl (tys4 cI cZ cC cJ) [.ref hM, .int (nI w)] [(hM, .inr (7, [.int (nI ft), .int (nI ty), .ref mTx, .int (nI wr), .ref mPg, .int (nI cn), .ref mLe, .ref mSz, .int (nI pf), .ref mLo, .ref mHi, .ref mDp, .int (nI mn), .ref mFu, .ref mFv, .ref mRw, .ref mBl, .ref mWy, .ref mFe])), (mPg, .inl (cI, 120, .inl (fun i => nI (pg i)))), (mLe, .inl (cI, 217, .inl (fun i => nI (le i)))), (mSz, .inl (cI, 31, .inl (fun i => nI (sz i))))] [(hM, .inr (7, [.int (nI ft), .int (nI ty), .ref mTx, .int (nI (wr + sz w)), .ref mPg, .int (nI cn), .ref mLe, .ref mSz, .int (nI pf), .ref mLo, .ref mHi, .ref mDp, .int (nI mn), .ref mFu, .ref mFv, .ref mRw, .ref mBl, .ref mWy, .ref mFe])), (mPg, .inl (cI, 120, .inl (fun i => nI ((mpr pg wr le w (sz w)) i)))), (mLe, .inl (cI, 217, .inl (fun i => nI (le i)))), (mSz, .inl (cI, 31, .inl (fun i => nI (sz i))))] := by
  refine CV.ofV (by decide +kernel) rfl (Nat.le_of_ble_eq_true rfl) ?_
  intro κ x hret
  refine V_iconst (v := nI 0) x dX7_printWord_0 (by decide +kernel) ?_
  refine V_istore_n x 2 [(2, .int (nI 0)), (0, .ref hM), (1, .int (nI w))] dX7_printWord_1 rfl (by decide) rfl ?_
  have hsw := hsz w
  have L2 : ∀ (k2 : Nat) (k : Nat) (pg1 : Nat → Nat) (hk : k ≤ sz w) (e1 : mpr pg wr le w k = pg1) (hk2 : sz w - k = k2), V κ 0 0 [(hM, .inr (7, [.int (nI ft), .int (nI ty), .ref mTx, .int (nI (wr + k)), .ref mPg, .int (nI cn), .ref mLe, .ref mSz, .int (nI pf), .ref mLo, .ref mHi, .ref mDp, .int (nI mn), .ref mFu, .ref mFv, .ref mRw, .ref mBl, .ref mWy, .ref mFe])), (mPg, .inl (cI, 120, .inl (fun i => nI (pg1 i)))), (mLe, .inl (cI, 217, .inl (fun i => nI (le i)))), (mSz, .inl (cI, 31, .inl (fun i => nI (sz i))))] 2 [(0, .ref hM), (1, .int (nI w)), (2, .int (nI k))] [] := by
    intro k2
    induction k2 using Nat.strongRecOn with
    | ind k2 ih2 =>
      intro k pg1 hk e1 hk2
      have hsw := hsz w
      refine V_iload_n x 2 dX7_printWord_2 rfl rfl ?_
      refine V_aload_n x 0 dX7_printWord_3 rfl rfl ?_
      refine V_get x 0 7 7 hinX7 rfl rfl (by decide) flX7_19 rfl dX7_printWord_4 ?_
      refine V_iload_n x 1 dX7_printWord_7 rfl rfl ?_
      refine V_iald x 3 0 rfl rfl dX7_printWord_8 (by omega) (by omega) ?_
      refine V_icmp_geN x 38 dX7_printWord_9 rfl (fun t9 => ?_) (fun f9 => ?_)
      · skip
        obtain rfl : k = sz w := by omega
        rw [e1] at hret
        exact hret _ _ dX7_printWord_38
      · skip
        have hlk := hl1 k (by omega)
        have hl8 := hle (7 * w + k)
        refine V_aload_n x 0 dX7_printWord_12 rfl rfl ?_
        refine V_bipush (v := nI 97) x dX7_printWord_13 (by decide +kernel) ?_
        refine V_aload_n x 0 dX7_printWord_15 rfl rfl ?_
        refine V_get x 0 7 6 hinX7 rfl rfl (by decide) flX7_16 rfl dX7_printWord_16 ?_
        refine V_bipush (v := nI 7) x dX7_printWord_19 (by decide +kernel) ?_
        refine V_iload_n x 1 dX7_printWord_21 rfl rfl ?_
        refine V_imul x (nI (7 * w)) dX7_printWord_22 (pk_mul _ _) ?_
        refine V_iload_n x 2 dX7_printWord_23 rfl rfl ?_
        refine V_iadd x (nI ((7 * w) + k)) dX7_printWord_24 (nI_add _ _) ?_
        refine V_iald x 2 0 rfl rfl dX7_printWord_25 (by omega) (by omega) ?_
        refine V_iadd x (nI (97 + (le ((7 * w) + k)))) dX7_printWord_26 (nI_add _ _) ?_
        refine V_iconst (v := nI 1) x dX7_printWord_27 (by decide +kernel) ?_
        refine V_isub x (nI ((97 + (le ((7 * w) + k))) - 1)) dX7_printWord_28 (pk_sub (by omega)) ?_
        refine V_callVv x (m_print l D cI cZ cC cJ hM mTx mPg mLe mSz mLo mHi mDp mFu mFv mRw mBl mWy mFe ft ty (wr + k) cn pf mn pg1 ((97 + (le ((7 * w) + k))) - 1) (by first | omega | assumption)) 1 (gdV mlX7_90 imX7_print seX7_print inX7 coX7_print) rfl hdX7_print ⟨Nat.le_of_ble_eq_true rfl, Nat.le_of_ble_eq_true rfl⟩ ⟨rfl, rfl⟩ 0 rfl rfl rfl [0, 1] [(hM, .inr (7, [.int (nI ft), .int (nI ty), .ref mTx, .int (nI ((wr + k) + 1)), .ref mPg, .int (nI cn), .ref mLe, .ref mSz, .int (nI pf), .ref mLo, .ref mHi, .ref mDp, .int (nI mn), .ref mFu, .ref mFv, .ref mRw, .ref mBl, .ref mWy, .ref mFe])), (mPg, .inl (cI, 120, .inl (fun i => nI ((va_up pg1 (wr + k) ((97 + (le ((7 * w) + k))) - 1)) i)))), (mLe, .inl (cI, 217, .inl (fun i => nI (le i)))), (mSz, .inl (cI, 31, .inl (fun i => nI (sz i))))] rfl rfl [hM, mPg] rfl rfl [some 0, some 1] rfl rfl (rest := []) rfl (Nat.le_of_ble_eq_true rfl) dX7_printWord_29 ⟨Nat.zero_le _, Nat.zero_le _⟩ ?_
        refine V_iinc x 2 2 [(2, .int (nI (k + 1))), (0, .ref hM), (1, .int (nI w))] dX7_printWord_32 rfl (iinc_1 _) (by decide) rfl ?_
        refine V_goto x 2 dX7_printWord_35 rfl ?_
        have hsw := hsz w
        refine V.sub [1, 2, 0] (lv' := [(0, .ref hM), (1, .int (nI w)), (2, .int (nI ((k + 1))))]) rfl ?_
        exact ih2 (sz w - (k + 1)) (by omega) (k + 1) (va_up pg1 (wr + k) ((97 + (le ((7 * w) + k))) - 1)) (by omega) (by rw [mpr, e1]) rfl
  refine V.sub [1, 2, 0] (lv' := [(0, .ref hM), (1, .int (nI w)), (2, .int (nI 0))]) rfl ?_
  exact L2 _ 0 pg (by omega) rfl rfl
set_option maxHeartbeats 4000000 in
set_option maxRecDepth 100000 in
theorem m_shares (l : Launch) (D : va_G) (cI cZ cC cJ : ClassId) (hM mTx mPg mLe mSz mLo mHi mDp mFu mFv mRw mBl mWy mFe : Nat) (ft : Nat) (ty : Nat) (wr : Nat) (cn : Nat) (pf : Nat) (mn : Nat) (le : Nat → Nat) (sz : Nat → Nat) (a : Nat) (b : Nat) (n : Nat) (ha : a < 31) (hb : b < 31) (hn : n ≤ 60) (hle : ∀ i, le i ≤ 8) (hsz : ∀ i, sz i ≤ 7) : CI l yX7_shares wsX7_shares { frames := 0, cells := 0, slots := 0, locals := 0 } D vwCl (tys4 cI cZ cC cJ) [.ref hM, .int (nI a), .int (nI b), .int (nI n)] [(hM, .inr (7, [.int (nI ft), .int (nI ty), .ref mTx, .int (nI wr), .ref mPg, .int (nI cn), .ref mLe, .ref mSz, .int (nI pf), .ref mLo, .ref mHi, .ref mDp, .int (nI mn), .ref mFu, .ref mFv, .ref mRw, .ref mBl, .ref mWy, .ref mFe])), (mLe, .inl (cI, 217, .inl (fun i => nI (le i)))), (mSz, .inl (cI, 31, .inl (fun i => nI (sz i))))] ((bI (msh le sz a b n n))) [(hM, .inr (7, [.int (nI ft), .int (nI ty), .ref mTx, .int (nI wr), .ref mPg, .int (nI cn), .ref mLe, .ref mSz, .int (nI pf), .ref mLo, .ref mHi, .ref mDp, .int (nI mn), .ref mFu, .ref mFv, .ref mRw, .ref mBl, .ref mWy, .ref mFe])), (mLe, .inl (cI, 217, .inl (fun i => nI (le i)))), (mSz, .inl (cI, 31, .inl (fun i => nI (sz i))))] := by
  refine CI.ofV (nar_bI2 _) (by decide +kernel) rfl (Nat.le_of_ble_eq_true rfl) ?_
  intro κ x hret
  have hsa := hsz a
  have hsb := hsz b
  refine V_iload_n x 3 dX7_shares_0 rfl rfl ?_
  refine V_aload_n x 0 dX7_shares_1 rfl rfl ?_
  refine V_get x 0 7 7 hinX7 rfl rfl (by decide) flX7_19 rfl dX7_shares_2 ?_
  refine V_iload_n x 1 dX7_shares_5 rfl rfl ?_
  refine V_iald x 2 0 rfl rfl dX7_shares_6 (by omega) (by omega) ?_
  have J25 : V κ 0 0 [(hM, .inr (7, [.int (nI ft), .int (nI ty), .ref mTx, .int (nI wr), .ref mPg, .int (nI cn), .ref mLe, .ref mSz, .int (nI pf), .ref mLo, .ref mHi, .ref mDp, .int (nI mn), .ref mFu, .ref mFv, .ref mRw, .ref mBl, .ref mWy, .ref mFe])), (mLe, .inl (cI, 217, .inl (fun i => nI (le i)))), (mSz, .inl (cI, 31, .inl (fun i => nI (sz i))))] 25 [(0, .ref hM), (1, .int (nI a)), (2, .int (nI b)), (3, .int (nI n))] [.int (bI (decide (n ≤ sz a ∧ n ≤ sz b)))] := by
    refine V_istore x 4 [(4, .int (bI (decide (n ≤ sz a ∧ n ≤ sz b)))), (0, .ref hM), (1, .int (nI a)), (2, .int (nI b)), (3, .int (nI n))] dX7_shares_25 (by decide) rfl ?_
    refine V_iconst (v := nI 0) x dX7_shares_27 (by decide +kernel) ?_
    refine V_istore x 5 [(5, .int (nI 0)), (4, .int (bI (decide (n ≤ sz a ∧ n ≤ sz b)))), (0, .ref hM), (1, .int (nI a)), (2, .int (nI b)), (3, .int (nI n))] dX7_shares_28 (by decide) rfl ?_
    have L30 : ∀ (k30 : Nat) (k : Nat) (q : Bool) (hk : k ≤ n) (e1 : msh le sz a b n k = q) (hk30 : n - k = k30), V κ 0 0 [(hM, .inr (7, [.int (nI ft), .int (nI ty), .ref mTx, .int (nI wr), .ref mPg, .int (nI cn), .ref mLe, .ref mSz, .int (nI pf), .ref mLo, .ref mHi, .ref mDp, .int (nI mn), .ref mFu, .ref mFv, .ref mRw, .ref mBl, .ref mWy, .ref mFe])), (mLe, .inl (cI, 217, .inl (fun i => nI (le i)))), (mSz, .inl (cI, 31, .inl (fun i => nI (sz i))))] 30 [(0, .ref hM), (1, .int (nI a)), (2, .int (nI b)), (3, .int (nI n)), (4, .int (bI q)), (5, .int (nI k))] [] := by
      intro k30
      induction k30 using Nat.strongRecOn with
      | ind k30 ih30 =>
        intro k q hk e1 hk30
        refine V_iload x 5 dX7_shares_30 rfl ?_
        refine V_iload_n x 3 dX7_shares_32 rfl rfl ?_
        refine V_icmp_geN x 81 dX7_shares_33 rfl (fun t33 => ?_) (fun f33 => ?_)
        · skip
          refine V_iload x 4 dX7_shares_81 rfl ?_
          refine V.ci (x' := bI (msh le sz a b n n)) (by first | (rw [← e1, show k = n by omega]; done) | (rw [msh_false (e1.trans t38) (show k ≤ n by omega), t38])) ?_
          exact hret _ _ dX7_shares_83
        · skip
          refine V_iload x 4 dX7_shares_36 rfl ?_
          refine V_if_eqB x 81 dX7_shares_38 rfl (fun t38 => ?_) (fun f38 => ?_)
          · skip
            refine V_iload x 4 dX7_shares_81 rfl ?_
            refine V.ci (x' := bI (msh le sz a b n n)) (by first | (rw [← e1, show k = n by omega]; done) | (rw [msh_false (e1.trans t38) (show k ≤ n by omega), t38])) ?_
            exact hret _ _ dX7_shares_83
          · skip
            have hns := msh_n (e1.trans f38)
            have hla := hle (7 * a + k)
            have hlb := hle (7 * b + k)
            refine V_aload_n x 0 dX7_shares_41 rfl rfl ?_
            refine V_get x 0 7 6 hinX7 rfl rfl (by decide) flX7_16 rfl dX7_shares_42 ?_
            refine V_bipush (v := nI 7) x dX7_shares_45 (by decide +kernel) ?_
            refine V_iload_n x 1 dX7_shares_47 rfl rfl ?_
            refine V_imul x (nI (7 * a)) dX7_shares_48 (pk_mul _ _) ?_
            refine V_iload x 5 dX7_shares_49 rfl ?_
            refine V_iadd x (nI ((7 * a) + k)) dX7_shares_51 (nI_add _ _) ?_
            refine V_iald x 1 0 rfl rfl dX7_shares_52 (by omega) (by omega) ?_
            refine V_aload_n x 0 dX7_shares_53 rfl rfl ?_
            refine V_get x 0 7 6 hinX7 rfl rfl (by decide) flX7_16 rfl dX7_shares_54 ?_
            refine V_bipush (v := nI 7) x dX7_shares_57 (by decide +kernel) ?_
            refine V_iload_n x 2 dX7_shares_59 rfl rfl ?_
            refine V_imul x (nI (7 * b)) dX7_shares_60 (pk_mul _ _) ?_
            refine V_iload x 5 dX7_shares_61 rfl ?_
            refine V_iadd x (nI ((7 * b) + k)) dX7_shares_63 (nI_add _ _) ?_
            refine V_iald x 1 0 rfl rfl dX7_shares_64 (by omega) (by omega) ?_
            have J73 : V κ 0 0 [(hM, .inr (7, [.int (nI ft), .int (nI ty), .ref mTx, .int (nI wr), .ref mPg, .int (nI cn), .ref mLe, .ref mSz, .int (nI pf), .ref mLo, .ref mHi, .ref mDp, .int (nI mn), .ref mFu, .ref mFv, .ref mRw, .ref mBl, .ref mWy, .ref mFe])), (mLe, .inl (cI, 217, .inl (fun i => nI (le i)))), (mSz, .inl (cI, 31, .inl (fun i => nI (sz i))))] 73 [(0, .ref hM), (1, .int (nI a)), (2, .int (nI b)), (3, .int (nI n)), (4, .int (bI q)), (5, .int (nI k))] [.int (bI (decide (le (7 * a + k) = le (7 * b + k))))] := by
              refine V_istore x 4 [(4, .int (bI (decide (le (7 * a + k) = le (7 * b + k))))), (0, .ref hM), (1, .int (nI a)), (2, .int (nI b)), (3, .int (nI n)), (5, .int (nI k))] dX7_shares_73 (by decide) rfl ?_
              refine V_iinc x 5 5 [(5, .int (nI (k + 1))), (4, .int (bI (decide (le (7 * a + k) = le (7 * b + k))))), (0, .ref hM), (1, .int (nI a)), (2, .int (nI b)), (3, .int (nI n))] dX7_shares_75 rfl (iinc_1 _) (by decide) rfl ?_
              refine V_goto x 30 dX7_shares_78 rfl ?_
              refine V.sub [2, 3, 4, 5, 1, 0] (lv' := [(0, .ref hM), (1, .int (nI a)), (2, .int (nI b)), (3, .int (nI n)), (4, .int (bI ((decide (le (7 * a + k) = le (7 * b + k)))))), (5, .int (nI ((k + 1))))]) rfl ?_
              exact ih30 (n - (k + 1)) (by omega) (k + 1) (decide (le (7 * a + k) = le (7 * b + k))) (by omega) (by rw [msh, e1, f38]; rfl) rfl
            refine V_icmp_neN x 72 dX7_shares_65 rfl (fun t65 => ?_) (fun f65 => ?_)
            · skip
              refine V_iconst (v := nI 0) x dX7_shares_72 (by decide +kernel) ?_
              refine V.ci (x' := bI (decide (le (7 * a + k) = le (7 * b + k)))) (by first | (rw [decide_eq_true (by omega)]; rfl) | (rw [decide_eq_false (by omega)]; rfl)) ?_
              exact J73
            · skip
              refine V_iconst (v := nI 1) x dX7_shares_68 (by decide +kernel) ?_
              refine V_goto x 73 dX7_shares_69 rfl ?_
              refine V.ci (x' := bI (decide (le (7 * a + k) = le (7 * b + k)))) (by first | (rw [decide_eq_true (by omega)]; rfl) | (rw [decide_eq_false (by omega)]; rfl)) ?_
              exact J73
    refine V.sub [2, 3, 4, 5, 1, 0] (lv' := [(0, .ref hM), (1, .int (nI a)), (2, .int (nI b)), (3, .int (nI n)), (4, .int (bI ((decide (n ≤ sz a ∧ n ≤ sz b))))), (5, .int (nI 0))]) rfl ?_
    exact L30 _ 0 (decide (n ≤ sz a ∧ n ≤ sz b)) (by omega) rfl rfl
  refine V_icmp_gtN x 24 dX7_shares_7 rfl (fun t7 => ?_) (fun f7 => ?_)
  · skip
    refine V_iconst (v := nI 0) x dX7_shares_24 (by decide +kernel) ?_
    refine V.ci (x' := bI (decide (n ≤ sz a ∧ n ≤ sz b))) (by first | (rw [decide_eq_true (by omega)]; rfl) | (rw [decide_eq_false (by omega)]; rfl)) ?_
    exact J25
  · skip
    refine V_iload_n x 3 dX7_shares_10 rfl rfl ?_
    refine V_aload_n x 0 dX7_shares_11 rfl rfl ?_
    refine V_get x 0 7 7 hinX7 rfl rfl (by decide) flX7_19 rfl dX7_shares_12 ?_
    refine V_iload_n x 2 dX7_shares_15 rfl rfl ?_
    refine V_iald x 2 0 rfl rfl dX7_shares_16 (by omega) (by omega) ?_
    refine V_icmp_gtN x 24 dX7_shares_17 rfl (fun t17 => ?_) (fun f17 => ?_)
    · skip
      refine V_iconst (v := nI 0) x dX7_shares_24 (by decide +kernel) ?_
      refine V.ci (x' := bI (decide (n ≤ sz a ∧ n ≤ sz b))) (by first | (rw [decide_eq_true (by omega)]; rfl) | (rw [decide_eq_false (by omega)]; rfl)) ?_
      exact J25
    · skip
      refine V_iconst (v := nI 1) x dX7_shares_20 (by decide +kernel) ?_
      refine V_goto x 25 dX7_shares_21 rfl ?_
      refine V.ci (x' := bI (decide (n ≤ sz a ∧ n ≤ sz b))) (by first | (rw [decide_eq_true (by omega)]; rfl) | (rw [decide_eq_false (by omega)]; rfl)) ?_
      exact J25
