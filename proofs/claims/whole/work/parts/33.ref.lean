/-! contracts, laid by prog/mk.py -/
set_option maxHeartbeats 4000000 in
set_option maxRecDepth 100000 in
theorem m_near (l : Launch) (D : va_G) (cI cZ cC cJ : ClassId) (hM mTx mPg mLe mSz mLo mHi mDp mFu mFv mRw mBl mWy mFe : Nat) (ft : Nat) (ty : Nat) (wr : Nat) (cn : Nat) (pf : Nat) (mn : Nat) (tx : Nat → Nat) (le : Nat → Nat) (sz : Nat → Nat) (ro : Nat → Nat) (bl : Nat → Nat) (gu : Nat → Nat) (gv : Nat → Nat) (j : Nat) (hj : j ≤ 2) (hty : ty ≤ 60) (hcn : cn ≤ 30) (htx : ∀ i, tx i < 65536) (hle : ∀ i, le i ≤ 8) (hsz : ∀ i, sz i ≤ 7) : CI l yX7_near wsX7_near { frames := 2, cells := 0, slots := 0, locals := 47 } D vwCl (tys4 cI cZ cC cJ) [.ref hM, .int (nI j)] [(hM, .inr (7, [.int (nI ft), .int (nI ty), .ref mTx, .int (nI wr), .ref mPg, .int (nI cn), .ref mLe, .ref mSz, .int (nI pf), .ref mLo, .ref mHi, .ref mDp, .int (nI mn), .ref mFu, .ref mFv, .ref mRw, .ref mBl, .ref mWy, .ref mFe])), (mTx, .inl (cI, 60, .inl (fun i => nI (tx i)))), (mLe, .inl (cI, 217, .inl (fun i => nI (le i)))), (mSz, .inl (cI, 31, .inl (fun i => nI (sz i)))), (mRw, .inl (cI, 61, .inl (fun i => nI (ro i)))), (mBl, .inl (cI, 61, .inl (fun i => nI (bl i)))), (mFu, .inl (cI, 420, .inl (fun i => nI (gu i)))), (mFv, .inl (cI, 420, .inl (fun i => nI (gv i))))] ((nI ((mnr tx le sz ty j (ro, bl, gu, gv, 0) cn).2.2.2.2))) [(hM, .inr (7, [.int (nI 0), .int (nI 0), .ref mTx, .int (nI wr), .ref mPg, .int (nI cn), .ref mLe, .ref mSz, .int (nI pf), .ref mLo, .ref mHi, .ref mDp, .int (nI ((mnr tx le sz ty j (ro, bl, gu, gv, 0) cn).2.2.2.2)), .ref mFu, .ref mFv, .ref mRw, .ref mBl, .ref mWy, .ref mFe])), (mTx, .inl (cI, 60, .inl (fun i => nI (tx i)))), (mLe, .inl (cI, 217, .inl (fun i => nI (le i)))), (mSz, .inl (cI, 31, .inl (fun i => nI (sz i)))), (mRw, .inl (cI, 61, .inl (fun i => nI (((mnr tx le sz ty j (ro, bl, gu, gv, 0) cn).1) i)))), (mBl, .inl (cI, 61, .inl (fun i => nI (((mnr tx le sz ty j (ro, bl, gu, gv, 0) cn).2.1) i)))), (mFu, .inl (cI, 420, .inl (fun i => nI (((mnr tx le sz ty j (ro, bl, gu, gv, 0) cn).2.2.1) i)))), (mFv, .inl (cI, 420, .inl (fun i => nI (((mnr tx le sz ty j (ro, bl, gu, gv, 0) cn).2.2.2.1) i))))] := by
  refine CI.ofV rfl (by decide +kernel) rfl (Nat.le_of_ble_eq_true rfl) ?_
  intro κ x hret
  refine V_aload_n x 0 dX7_near_0 rfl rfl ?_
  refine V_iload_n x 1 dX7_near_1 rfl rfl ?_
  refine V_if_ltN x 10 dX7_near_2 rfl (fun t2 => ?_) (fun f2 => ?_)
  · skip
    exact t2.elim
  · skip
    refine V_iload_n x 1 dX7_near_5 rfl rfl ?_
    refine V_iconst (v := nI 2) x dX7_near_6 (by decide +kernel) ?_
    refine V_icmp_leN x 14 dX7_near_7 rfl (fun t7 => ?_) (fun f7 => ?_)
    · skip
      refine V_iconst (v := nI 0) x dX7_near_14 (by decide +kernel) ?_
      refine V_put (ty := .int) x 0 7 0 [(hM, .inr (7, [.int (nI 0), .int (nI ty), .ref mTx, .int (nI wr), .ref mPg, .int (nI cn), .ref mLe, .ref mSz, .int (nI pf), .ref mLo, .ref mHi, .ref mDp, .int (nI mn), .ref mFu, .ref mFv, .ref mRw, .ref mBl, .ref mWy, .ref mFe])), (mTx, .inl (cI, 60, .inl (fun i => nI (tx i)))), (mLe, .inl (cI, 217, .inl (fun i => nI (le i)))), (mSz, .inl (cI, 31, .inl (fun i => nI (sz i)))), (mRw, .inl (cI, 61, .inl (fun i => nI (ro i)))), (mBl, .inl (cI, 61, .inl (fun i => nI (bl i)))), (mFu, .inl (cI, 420, .inl (fun i => nI (gu i)))), (mFv, .inl (cI, 420, .inl (fun i => nI (gv i))))] hinX7 tyX7 tyX7_ok nmX7 rfl rfl (by decide) flX7_50 rfl (by decide +kernel) rfl rfl (Nat.le_of_ble_eq_true rfl) rfl dX7_near_15 ?_
      refine V_aload_n x 0 dX7_near_18 rfl rfl ?_
      refine V_get x 0 7 0 hinX7 rfl rfl (by decide) flX7_50 rfl dX7_near_19 ?_
      refine V_if_leN x 27 dX7_near_22 rfl (fun t22 => ?_) (fun f22 => ?_)
      · skip
        refine V_aload_n x 0 dX7_near_27 rfl rfl ?_
        refine V_callVi x (m_take l D cI cZ cC cJ hM mTx mPg mLe mSz mLo mHi mDp mFu mFv mRw mBl mWy mFe 0 ty wr cn pf mn ) 0 (gdV mlX7_57 imX7_take seX7_take inX7 coX7_take) rfl hdX7_take ⟨Nat.le_of_ble_eq_true rfl, Nat.le_of_ble_eq_true rfl⟩ ⟨rfl, rfl⟩ 0 rfl rfl rfl [0] [(hM, .inr (7, [.int (nI 0), .int (nI 0), .ref mTx, .int (nI wr), .ref mPg, .int (nI cn), .ref mLe, .ref mSz, .int (nI pf), .ref mLo, .ref mHi, .ref mDp, .int (nI mn), .ref mFu, .ref mFv, .ref mRw, .ref mBl, .ref mWy, .ref mFe])), (mTx, .inl (cI, 60, .inl (fun i => nI (tx i)))), (mLe, .inl (cI, 217, .inl (fun i => nI (le i)))), (mSz, .inl (cI, 31, .inl (fun i => nI (sz i)))), (mRw, .inl (cI, 61, .inl (fun i => nI (ro i)))), (mBl, .inl (cI, 61, .inl (fun i => nI (bl i)))), (mFu, .inl (cI, 420, .inl (fun i => nI (gu i)))), (mFv, .inl (cI, 420, .inl (fun i => nI (gv i))))] rfl rfl [hM] rfl rfl [some 0] rfl rfl (rest := []) rfl (Nat.le_of_ble_eq_true rfl) dX7_near_28 ⟨Nat.zero_le _, Nat.zero_le _⟩ ?_
        refine V_istore_n x 2 [(2, .int (nI ty)), (0, .ref hM), (1, .int (nI j))] dX7_near_31 rfl (by decide) rfl ?_
        refine V_aload_n x 0 dX7_near_32 rfl rfl ?_
        refine V_iconst (v := nI 0) x dX7_near_33 (by decide +kernel) ?_
        refine V_put (ty := .int) x 0 7 12 [(hM, .inr (7, [.int (nI 0), .int (nI 0), .ref mTx, .int (nI wr), .ref mPg, .int (nI cn), .ref mLe, .ref mSz, .int (nI pf), .ref mLo, .ref mHi, .ref mDp, .int (nI 0), .ref mFu, .ref mFv, .ref mRw, .ref mBl, .ref mWy, .ref mFe])), (mTx, .inl (cI, 60, .inl (fun i => nI (tx i)))), (mLe, .inl (cI, 217, .inl (fun i => nI (le i)))), (mSz, .inl (cI, 31, .inl (fun i => nI (sz i)))), (mRw, .inl (cI, 61, .inl (fun i => nI (ro i)))), (mBl, .inl (cI, 61, .inl (fun i => nI (bl i)))), (mFu, .inl (cI, 420, .inl (fun i => nI (gu i)))), (mFv, .inl (cI, 420, .inl (fun i => nI (gv i))))] hinX7 tyX7 tyX7_ok nmX7 rfl rfl (by decide) flX7_84 rfl (by decide +kernel) rfl rfl (Nat.le_of_ble_eq_true rfl) rfl dX7_near_34 ?_
        refine V_iconst (v := nI 0) x dX7_near_37 (by decide +kernel) ?_
        refine V_istore_n x 3 [(3, .int (nI 0)), (2, .int (nI ty)), (0, .ref hM), (1, .int (nI j))] dX7_near_38 rfl (by decide) rfl ?_
        have L39 : ∀ (k39 : Nat) (k : Nat) (r1 : Nat → Nat) (b1 : Nat → Nat) (gu1 : Nat → Nat) (gv1 : Nat → Nat) (mn1 : Nat) (hk : k ≤ cn) (hm1 : mn1 ≤ k) (e1 : mnr tx le sz ty j (ro, bl, gu, gv, 0) k = (r1, b1, gu1, gv1, mn1)) (hk39 : cn - k = k39), V κ 0 0 [(hM, .inr (7, [.int (nI 0), .int (nI 0), .ref mTx, .int (nI wr), .ref mPg, .int (nI cn), .ref mLe, .ref mSz, .int (nI pf), .ref mLo, .ref mHi, .ref mDp, .int (nI mn1), .ref mFu, .ref mFv, .ref mRw, .ref mBl, .ref mWy, .ref mFe])), (mTx, .inl (cI, 60, .inl (fun i => nI (tx i)))), (mLe, .inl (cI, 217, .inl (fun i => nI (le i)))), (mSz, .inl (cI, 31, .inl (fun i => nI (sz i)))), (mRw, .inl (cI, 61, .inl (fun i => nI (r1 i)))), (mBl, .inl (cI, 61, .inl (fun i => nI (b1 i)))), (mFu, .inl (cI, 420, .inl (fun i => nI (gu1 i)))), (mFv, .inl (cI, 420, .inl (fun i => nI (gv1 i))))] 39 [(0, .ref hM), (1, .int (nI j)), (2, .int (nI ty)), (3, .int (nI k))] [] := by
          intro k39
          induction k39 using Nat.strongRecOn with
          | ind k39 ih39 =>
            intro k r1 b1 gu1 gv1 mn1 hk hm1 e1 hk39
            refine V_iload_n x 3 dX7_near_39 rfl rfl ?_
            refine V_aload_n x 0 dX7_near_40 rfl rfl ?_
            refine V_get x 0 7 5 hinX7 rfl rfl (by decide) flX7_65 rfl dX7_near_41 ?_
            refine V_icmp_geN x 74 dX7_near_44 rfl (fun t44 => ?_) (fun f44 => ?_)
            · skip
              refine V_aload_n x 0 dX7_near_74 rfl rfl ?_
              refine V_get x 0 7 12 hinX7 rfl rfl (by decide) flX7_84 rfl dX7_near_75 ?_
              obtain rfl : k = cn := by omega
              rw [e1] at hret
              exact hret _ _ dX7_near_78
            · skip
              refine V_aload_n x 0 dX7_near_47 rfl rfl ?_
              refine V_iload_n x 3 dX7_near_48 rfl rfl ?_
              refine V_iload_n x 2 dX7_near_49 rfl rfl ?_
              refine V_callVi x (m_distance l D cI cZ cC cJ hM mTx mPg mLe mSz mLo mHi mDp mFu mFv mRw mBl mWy mFe 0 0 wr cn pf mn1 tx le sz r1 b1 k ty (by first | omega | assumption) (by first | omega | assumption) (by first | omega | assumption) (by first | omega | assumption) (by first | omega | assumption)) 2 (gdV mlX7_120 imX7_distance seX7_distance inX7 coX7_distance) rfl hdX7_distance ⟨Nat.le_of_ble_eq_true rfl, Nat.le_of_ble_eq_true rfl⟩ ⟨rfl, rfl⟩ 0 rfl rfl rfl [0, 1, 2, 3, 4, 5] [(hM, .inr (7, [.int (nI 0), .int (nI 0), .ref mTx, .int (nI wr), .ref mPg, .int (nI cn), .ref mLe, .ref mSz, .int (nI pf), .ref mLo, .ref mHi, .ref mDp, .int (nI mn1), .ref mFu, .ref mFv, .ref mRw, .ref mBl, .ref mWy, .ref mFe])), (mTx, .inl (cI, 60, .inl (fun i => nI (tx i)))), (mLe, .inl (cI, 217, .inl (fun i => nI (le i)))), (mSz, .inl (cI, 31, .inl (fun i => nI (sz i)))), (mRw, .inl (cI, 61, .inl (fun i => nI (((mdO tx le k ty r1 b1 (sz k)).1) i)))), (mBl, .inl (cI, 61, .inl (fun i => nI (((mdO tx le k ty r1 b1 (sz k)).2) i)))), (mFu, .inl (cI, 420, .inl (fun i => nI (gu1 i)))), (mFv, .inl (cI, 420, .inl (fun i => nI (gv1 i))))] rfl rfl [hM, mTx, mLe, mSz, mRw, mBl] rfl rfl [some 0, some 1, some 2, some 3, some 4, some 5] rfl rfl (rest := []) rfl (Nat.le_of_ble_eq_true rfl) dX7_near_50 ⟨Nat.zero_le _, Nat.zero_le _⟩ ?_
              refine V_istore x 4 [(4, .int (nI ((mdO tx le k ty r1 b1 (sz k)).1 ty))), (0, .ref hM), (1, .int (nI j)), (2, .int (nI ty)), (3, .int (nI k))] dX7_near_53 (by decide) rfl ?_
              have hd9 := (mdO_ok (tx := tx) (le := le) (w := k) (n := ty) (ro := r1) (bl := b1) (sz k)).1 ty (Nat.le_refl _)
              have hs9 := hsz k
              refine V_iload x 4 dX7_near_55 rfl ?_
              refine V_iload_n x 1 dX7_near_57 rfl rfl ?_
              refine V_icmp_gtN x 68 dX7_near_58 rfl (fun t58 => ?_) (fun f58 => ?_)
              · skip
                refine V_iinc x 3 4 [(3, .int (nI (k + 1))), (4, .int (nI ((mdO tx le k ty r1 b1 (sz k)).1 ty))), (0, .ref hM), (1, .int (nI j)), (2, .int (nI ty))] dX7_near_68 rfl (iinc_1 _) (by decide) rfl ?_
                refine V_goto x 39 dX7_near_71 rfl ?_
                refine V.sub [2, 3, 4, 0] (lv' := [(0, .ref hM), (1, .int (nI j)), (2, .int (nI ty)), (3, .int (nI ((k + 1))))]) rfl ?_
                exact ih39 (cn - (k + 1)) (by omega) (k + 1) ((mdO tx le k ty r1 b1 (sz k)).1) ((mdO tx le k ty r1 b1 (sz k)).2) gu1 gv1 mn1 (by omega) (by omega) (by rw [mnr, e1]; first | exact if_pos (by omega) | exact if_neg (by omega)) rfl
              · skip
                refine V_aload_n x 0 dX7_near_61 rfl rfl ?_
                refine V_iload_n x 3 dX7_near_62 rfl rfl ?_
                refine V_iload x 4 dX7_near_63 rfl ?_
                refine V_callVv x (m_note l D cI cZ cC cJ hM mTx mPg mLe mSz mLo mHi mDp mFu mFv mRw mBl mWy mFe 0 0 wr cn pf mn1 gu1 gv1 k ((mdO tx le k ty r1 b1 (sz k)).1 ty) (by first | omega | assumption)) 2 (gdV mlX7_123 imX7_note seX7_note inX7 coX7_note) rfl hdX7_note ⟨Nat.le_of_ble_eq_true rfl, Nat.le_of_ble_eq_true rfl⟩ ⟨rfl, rfl⟩ 0 rfl rfl rfl [0, 6, 7] [(hM, .inr (7, [.int (nI 0), .int (nI 0), .ref mTx, .int (nI wr), .ref mPg, .int (nI cn), .ref mLe, .ref mSz, .int (nI pf), .ref mLo, .ref mHi, .ref mDp, .int (nI (mn1 + 1)), .ref mFu, .ref mFv, .ref mRw, .ref mBl, .ref mWy, .ref mFe])), (mTx, .inl (cI, 60, .inl (fun i => nI (tx i)))), (mLe, .inl (cI, 217, .inl (fun i => nI (le i)))), (mSz, .inl (cI, 31, .inl (fun i => nI (sz i)))), (mRw, .inl (cI, 61, .inl (fun i => nI (((mdO tx le k ty r1 b1 (sz k)).1) i)))), (mBl, .inl (cI, 61, .inl (fun i => nI (((mdO tx le k ty r1 b1 (sz k)).2) i)))), (mFu, .inl (cI, 420, .inl (fun i => nI ((va_up gu1 mn1 k) i)))), (mFv, .inl (cI, 420, .inl (fun i => nI ((va_up gv1 mn1 ((mdO tx le k ty r1 b1 (sz k)).1 ty)) i))))] rfl rfl [hM, mFu, mFv] rfl rfl [some 0, none, none, none, none, none, some 1, some 2] rfl rfl (rest := []) rfl (Nat.le_of_ble_eq_true rfl) dX7_near_65 ⟨Nat.zero_le _, Nat.zero_le _⟩ ?_
                refine V_iinc x 3 4 [(3, .int (nI (k + 1))), (4, .int (nI ((mdO tx le k ty r1 b1 (sz k)).1 ty))), (0, .ref hM), (1, .int (nI j)), (2, .int (nI ty))] dX7_near_68 rfl (iinc_1 _) (by decide) rfl ?_
                refine V_goto x 39 dX7_near_71 rfl ?_
                refine V.sub [2, 3, 4, 0] (lv' := [(0, .ref hM), (1, .int (nI j)), (2, .int (nI ty)), (3, .int (nI ((k + 1))))]) rfl ?_
                exact ih39 (cn - (k + 1)) (by omega) (k + 1) ((mdO tx le k ty r1 b1 (sz k)).1) ((mdO tx le k ty r1 b1 (sz k)).2) (va_up gu1 mn1 k) (va_up gv1 mn1 ((mdO tx le k ty r1 b1 (sz k)).1 ty)) (mn1 + 1) (by omega) (by omega) (by rw [mnr, e1]; first | exact if_pos (by omega) | exact if_neg (by omega)) rfl
        refine V.sub [2, 3, 1, 0] (lv' := [(0, .ref hM), (1, .int (nI j)), (2, .int (nI ty)), (3, .int (nI 0))]) rfl ?_
        exact L39 _ 0 ro bl gu gv 0 (by omega) (by omega) rfl rfl
      · skip
        omega
    · skip
      omega
set_option maxHeartbeats 4000000 in
set_option maxRecDepth 100000 in
theorem m_near_no (l : Launch) (D : va_G) (cI cZ cC cJ : ClassId) (hM mTx mPg mLe mSz mLo mHi mDp mFu mFv mRw mBl mWy mFe : Nat) (ft : Nat) (ty : Nat) (wr : Nat) (cn : Nat) (pf : Nat) (mn : Nat) (z : Int32) (hz : ¬ (0 ≤ z ∧ z ≤ 2)) : CI l yX7_near wsX7_near { frames := 0, cells := 0, slots := 0, locals := 0 } D vwCl (tys4 cI cZ cC cJ) [.ref hM, .int z] [(hM, .inr (7, [.int (nI ft), .int (nI ty), .ref mTx, .int (nI wr), .ref mPg, .int (nI cn), .ref mLe, .ref mSz, .int (nI pf), .ref mLo, .ref mHi, .ref mDp, .int (nI mn), .ref mFu, .ref mFv, .ref mRw, .ref mBl, .ref mWy, .ref mFe]))] ((nI 0)) [(hM, .inr (7, [.int (nI 1), .int (nI ty), .ref mTx, .int (nI wr), .ref mPg, .int (nI cn), .ref mLe, .ref mSz, .int (nI pf), .ref mLo, .ref mHi, .ref mDp, .int (nI mn), .ref mFu, .ref mFv, .ref mRw, .ref mBl, .ref mWy, .ref mFe]))] := by
  refine CI.ofV rfl (by decide +kernel) rfl (Nat.le_of_ble_eq_true rfl) ?_
  intro κ x hret
  refine V_aload_n x 0 dX7_near_0 rfl rfl ?_
  refine V_iload_n x 1 dX7_near_1 rfl rfl ?_
  refine V_if_lt x 10 dX7_near_2 rfl (fun t2 => ?_) (fun f2 => ?_)
  · skip
    refine V_iconst (v := nI 1) x dX7_near_10 (by decide +kernel) ?_
    refine V_goto x 15 dX7_near_11 rfl ?_
    refine V_put (ty := .int) x 0 7 0 [(hM, .inr (7, [.int (nI 1), .int (nI ty), .ref mTx, .int (nI wr), .ref mPg, .int (nI cn), .ref mLe, .ref mSz, .int (nI pf), .ref mLo, .ref mHi, .ref mDp, .int (nI mn), .ref mFu, .ref mFv, .ref mRw, .ref mBl, .ref mWy, .ref mFe]))] hinX7 tyX7 tyX7_ok nmX7 rfl rfl (by decide) flX7_50 rfl (by decide +kernel) rfl rfl (Nat.le_of_ble_eq_true rfl) rfl dX7_near_15 ?_
    refine V_aload_n x 0 dX7_near_18 rfl rfl ?_
    refine V_get x 0 7 0 hinX7 rfl rfl (by decide) flX7_50 rfl dX7_near_19 ?_
    refine V_if_leN x 27 dX7_near_22 rfl (fun t22 => ?_) (fun f22 => ?_)
    · skip
      omega
    · skip
      refine V_iconst (v := nI 0) x dX7_near_25 (by decide +kernel) ?_
      exact hret _ _ dX7_near_26
  · skip
    refine V_iload_n x 1 dX7_near_5 rfl rfl ?_
    refine V_iconst (v := nI 2) x dX7_near_6 (by decide +kernel) ?_
    refine V_icmp_le x 14 dX7_near_7 rfl (fun t7 => ?_) (fun f7 => ?_)
    · skip
      exact absurd ⟨Int32.not_lt.mp f2, t7⟩ hz
    · skip
      refine V_iconst (v := nI 1) x dX7_near_10 (by decide +kernel) ?_
      refine V_goto x 15 dX7_near_11 rfl ?_
      refine V_put (ty := .int) x 0 7 0 [(hM, .inr (7, [.int (nI 1), .int (nI ty), .ref mTx, .int (nI wr), .ref mPg, .int (nI cn), .ref mLe, .ref mSz, .int (nI pf), .ref mLo, .ref mHi, .ref mDp, .int (nI mn), .ref mFu, .ref mFv, .ref mRw, .ref mBl, .ref mWy, .ref mFe]))] hinX7 tyX7 tyX7_ok nmX7 rfl rfl (by decide) flX7_50 rfl (by decide +kernel) rfl rfl (Nat.le_of_ble_eq_true rfl) rfl dX7_near_15 ?_
      refine V_aload_n x 0 dX7_near_18 rfl rfl ?_
      refine V_get x 0 7 0 hinX7 rfl rfl (by decide) flX7_50 rfl dX7_near_19 ?_
      refine V_if_leN x 27 dX7_near_22 rfl (fun t22 => ?_) (fun f22 => ?_)
      · skip
        omega
      · skip
        refine V_iconst (v := nI 0) x dX7_near_25 (by decide +kernel) ?_
        exact hret _ _ dX7_near_26
set_option maxHeartbeats 4000000 in
set_option maxRecDepth 100000 in
theorem m_word_no (l : Launch) (D : va_G) (cI cZ cC cJ : ClassId) (hM mTx mPg mLe mSz mLo mHi mDp mFu mFv mRw mBl mWy mFe : Nat) (ft : Nat) (ty : Nat) (wr : Nat) (cn : Nat) (pf : Nat) (mn : Nat) (z : Int32) (hz : ¬ (0 ≤ z ∧ z < nI cn)) : CI l yX7_word wsX7_word { frames := 0, cells := 0, slots := 0, locals := 0 } D vwCl (tys4 cI cZ cC cJ) [.ref hM, .int z] [(hM, .inr (7, [.int (nI ft), .int (nI ty), .ref mTx, .int (nI wr), .ref mPg, .int (nI cn), .ref mLe, .ref mSz, .int (nI pf), .ref mLo, .ref mHi, .ref mDp, .int (nI mn), .ref mFu, .ref mFv, .ref mRw, .ref mBl, .ref mWy, .ref mFe]))] ((nI 0)) [(hM, .inr (7, [.int (nI 1), .int (nI ty), .ref mTx, .int (nI wr), .ref mPg, .int (nI cn), .ref mLe, .ref mSz, .int (nI pf), .ref mLo, .ref mHi, .ref mDp, .int (nI mn), .ref mFu, .ref mFv, .ref mRw, .ref mBl, .ref mWy, .ref mFe]))] := by
  refine CI.ofV rfl (by decide +kernel) rfl (Nat.le_of_ble_eq_true rfl) ?_
  intro κ x hret
  refine V_aload_n x 0 dX7_word_0 rfl rfl ?_
  refine V_iload_n x 1 dX7_word_1 rfl rfl ?_
  refine V_if_lt x 13 dX7_word_2 rfl (fun t2 => ?_) (fun f2 => ?_)
  · skip
    refine V_iconst (v := nI 1) x dX7_word_13 (by decide +kernel) ?_
    refine V_goto x 18 dX7_word_14 rfl ?_
    refine V_put (ty := .int) x 0 7 0 [(hM, .inr (7, [.int (nI 1), .int (nI ty), .ref mTx, .int (nI wr), .ref mPg, .int (nI cn), .ref mLe, .ref mSz, .int (nI pf), .ref mLo, .ref mHi, .ref mDp, .int (nI mn), .ref mFu, .ref mFv, .ref mRw, .ref mBl, .ref mWy, .ref mFe]))] hinX7 tyX7 tyX7_ok nmX7 rfl rfl (by decide) flX7_50 rfl (by decide +kernel) rfl rfl (Nat.le_of_ble_eq_true rfl) rfl dX7_word_18 ?_
    refine V_aload_n x 0 dX7_word_21 rfl rfl ?_
    refine V_get x 0 7 0 hinX7 rfl rfl (by decide) flX7_50 rfl dX7_word_22 ?_
    refine V_if_leN x 30 dX7_word_25 rfl (fun t25 => ?_) (fun f25 => ?_)
    · skip
      omega
    · skip
      refine V_iconst (v := nI 0) x dX7_word_28 (by decide +kernel) ?_
      exact hret _ _ dX7_word_29
  · skip
    refine V_iload_n x 1 dX7_word_5 rfl rfl ?_
    refine V_aload_n x 0 dX7_word_6 rfl rfl ?_
    refine V_get x 0 7 5 hinX7 rfl rfl (by decide) flX7_65 rfl dX7_word_7 ?_
    refine V_icmp_lt x 17 dX7_word_10 rfl (fun t10 => ?_) (fun f10 => ?_)
    · skip
      exact absurd ⟨Int32.not_lt.mp f2, t10⟩ hz
    · skip
      refine V_iconst (v := nI 1) x dX7_word_13 (by decide +kernel) ?_
      refine V_goto x 18 dX7_word_14 rfl ?_
      refine V_put (ty := .int) x 0 7 0 [(hM, .inr (7, [.int (nI 1), .int (nI ty), .ref mTx, .int (nI wr), .ref mPg, .int (nI cn), .ref mLe, .ref mSz, .int (nI pf), .ref mLo, .ref mHi, .ref mDp, .int (nI mn), .ref mFu, .ref mFv, .ref mRw, .ref mBl, .ref mWy, .ref mFe]))] hinX7 tyX7 tyX7_ok nmX7 rfl rfl (by decide) flX7_50 rfl (by decide +kernel) rfl rfl (Nat.le_of_ble_eq_true rfl) rfl dX7_word_18 ?_
      refine V_aload_n x 0 dX7_word_21 rfl rfl ?_
      refine V_get x 0 7 0 hinX7 rfl rfl (by decide) flX7_50 rfl dX7_word_22 ?_
      refine V_if_leN x 30 dX7_word_25 rfl (fun t25 => ?_) (fun f25 => ?_)
      · skip
        omega
      · skip
        refine V_iconst (v := nI 0) x dX7_word_28 (by decide +kernel) ?_
        exact hret _ _ dX7_word_29
set_option maxHeartbeats 4000000 in
set_option maxRecDepth 100000 in
theorem m_findPrefixes (l : Launch) (D : va_G) (cI cZ cC cJ : ClassId) (hM mTx mPg mLe mSz mLo mHi mDp mFu mFv mRw mBl mWy mFe : Nat) (ft : Nat) (ty : Nat) (wr : Nat) (cn : Nat) (pf : Nat) (mn : Nat) (le : Nat → Nat) (sz : Nat → Nat) (lo : Nat → Nat) (hi : Nat → Nat) (dp : Nat → Nat) (hcn : cn ≤ 30) (hle : ∀ i, le i ≤ 8) (hsz : ∀ i, sz i ≤ 7) : CV l yX7_findPrefixes wsX7_findPrefixes { frames := 1, cells := 0, slots := 0, locals := 25 } D vwCl (tys4 cI cZ cC cJ) [.ref hM] [(hM, .inr (7, [.int (nI ft), .int (nI ty), .ref mTx, .int (nI wr), .ref mPg, .int (nI cn), .ref mLe, .ref mSz, .int (nI pf), .ref mLo, .ref mHi, .ref mDp, .int (nI mn), .ref mFu, .ref mFv, .ref mRw, .ref mBl, .ref mWy, .ref mFe])), (mLe, .inl (cI, 217, .inl (fun i => nI (le i)))), (mSz, .inl (cI, 31, .inl (fun i => nI (sz i)))), (mLo, .inl (cI, 220, .inl (fun i => nI (lo i)))), (mHi, .inl (cI, 220, .inl (fun i => nI (hi i)))), (mDp, .inl (cI, 220, .inl (fun i => nI (dp i))))] [(hM, .inr (7, [.int (nI ft), .int (nI ty), .ref mTx, .int (nI wr), .ref mPg, .int (nI cn), .ref mLe, .ref mSz, .int (nI ((mfO le sz cn lo hi dp cn).1)), .ref mLo, .ref mHi, .ref mDp, .int (nI mn), .ref mFu, .ref mFv, .ref mRw, .ref mBl, .ref mWy, .ref mFe])), (mLe, .inl (cI, 217, .inl (fun i => nI (le i)))), (mSz, .inl (cI, 31, .inl (fun i => nI (sz i)))), (mLo, .inl (cI, 220, .inl (fun i => nI (((mfO le sz cn lo hi dp cn).2.1) i)))), (mHi, .inl (cI, 220, .inl (fun i => nI (((mfO le sz cn lo hi dp cn).2.2.1) i)))), (mDp, .inl (cI, 220, .inl (fun i => nI (((mfO le sz cn lo hi dp cn).2.2.2) i))))] := by
  refine CV.ofV (by decide +kernel) rfl (Nat.le_of_ble_eq_true rfl) ?_
  intro κ x hret
  refine V_aload_n x 0 dX7_findPrefixes_0 rfl rfl ?_
  refine V_get x 0 7 9 hinX7 rfl rfl (by decide) flX7_22 rfl dX7_findPrefixes_1 ?_
  refine V_iconst (v := nI 0) x dX7_findPrefixes_4 (by decide +kernel) ?_
  refine V_iconst (v := nI 0) x dX7_findPrefixes_5 (by decide +kernel) ?_
  refine V_iast x 3 0 nI lo 0 [(hM, .inr (7, [.int (nI ft), .int (nI ty), .ref mTx, .int (nI wr), .ref mPg, .int (nI cn), .ref mLe, .ref mSz, .int (nI pf), .ref mLo, .ref mHi, .ref mDp, .int (nI mn), .ref mFu, .ref mFv, .ref mRw, .ref mBl, .ref mWy, .ref mFe])), (mLe, .inl (cI, 217, .inl (fun i => nI (le i)))), (mSz, .inl (cI, 31, .inl (fun i => nI (sz i)))), (mLo, .inl (cI, 220, .inl (fun i => nI ((va_up lo 0 0) i)))), (mHi, .inl (cI, 220, .inl (fun i => nI (hi i)))), (mDp, .inl (cI, 220, .inl (fun i => nI (dp i))))] rfl rfl dX7_findPrefixes_6 (by omega) (by omega) rfl ?_
  refine V_aload_n x 0 dX7_findPrefixes_7 rfl rfl ?_
  refine V_get x 0 7 10 hinX7 rfl rfl (by decide) flX7_25 rfl dX7_findPrefixes_8 ?_
  refine V_iconst (v := nI 0) x dX7_findPrefixes_11 (by decide +kernel) ?_
  refine V_aload_n x 0 dX7_findPrefixes_12 rfl rfl ?_
  refine V_get x 0 7 5 hinX7 rfl rfl (by decide) flX7_65 rfl dX7_findPrefixes_13 ?_
  refine V_iast x 4 0 nI hi cn [(hM, .inr (7, [.int (nI ft), .int (nI ty), .ref mTx, .int (nI wr), .ref mPg, .int (nI cn), .ref mLe, .ref mSz, .int (nI pf), .ref mLo, .ref mHi, .ref mDp, .int (nI mn), .ref mFu, .ref mFv, .ref mRw, .ref mBl, .ref mWy, .ref mFe])), (mLe, .inl (cI, 217, .inl (fun i => nI (le i)))), (mSz, .inl (cI, 31, .inl (fun i => nI (sz i)))), (mLo, .inl (cI, 220, .inl (fun i => nI ((va_up lo 0 0) i)))), (mHi, .inl (cI, 220, .inl (fun i => nI ((va_up hi 0 cn) i)))), (mDp, .inl (cI, 220, .inl (fun i => nI (dp i))))] rfl rfl dX7_findPrefixes_16 (by omega) (by omega) rfl ?_
  refine V_aload_n x 0 dX7_findPrefixes_17 rfl rfl ?_
  refine V_get x 0 7 11 hinX7 rfl rfl (by decide) flX7_28 rfl dX7_findPrefixes_18 ?_
  refine V_iconst (v := nI 0) x dX7_findPrefixes_21 (by decide +kernel) ?_
  refine V_iconst (v := nI 0) x dX7_findPrefixes_22 (by decide +kernel) ?_
  refine V_iast x 5 0 nI dp 0 [(hM, .inr (7, [.int (nI ft), .int (nI ty), .ref mTx, .int (nI wr), .ref mPg, .int (nI cn), .ref mLe, .ref mSz, .int (nI pf), .ref mLo, .ref mHi, .ref mDp, .int (nI mn), .ref mFu, .ref mFv, .ref mRw, .ref mBl, .ref mWy, .ref mFe])), (mLe, .inl (cI, 217, .inl (fun i => nI (le i)))), (mSz, .inl (cI, 31, .inl (fun i => nI (sz i)))), (mLo, .inl (cI, 220, .inl (fun i => nI ((va_up lo 0 0) i)))), (mHi, .inl (cI, 220, .inl (fun i => nI ((va_up hi 0 cn) i)))), (mDp, .inl (cI, 220, .inl (fun i => nI ((va_up dp 0 0) i))))] rfl rfl dX7_findPrefixes_23 (by omega) (by omega) rfl ?_
  refine V_aload_n x 0 dX7_findPrefixes_24 rfl rfl ?_
  refine V_iconst (v := nI 1) x dX7_findPrefixes_25 (by decide +kernel) ?_
  refine V_put (ty := .int) x 0 7 8 [(hM, .inr (7, [.int (nI ft), .int (nI ty), .ref mTx, .int (nI wr), .ref mPg, .int (nI cn), .ref mLe, .ref mSz, .int (nI 1), .ref mLo, .ref mHi, .ref mDp, .int (nI mn), .ref mFu, .ref mFv, .ref mRw, .ref mBl, .ref mWy, .ref mFe])), (mLe, .inl (cI, 217, .inl (fun i => nI (le i)))), (mSz, .inl (cI, 31, .inl (fun i => nI (sz i)))), (mLo, .inl (cI, 220, .inl (fun i => nI ((va_up lo 0 0) i)))), (mHi, .inl (cI, 220, .inl (fun i => nI ((va_up hi 0 cn) i)))), (mDp, .inl (cI, 220, .inl (fun i => nI ((va_up dp 0 0) i))))] hinX7 tyX7 tyX7_ok nmX7 rfl rfl (by decide) flX7_100 rfl (by decide +kernel) rfl rfl (Nat.le_of_ble_eq_true rfl) rfl dX7_findPrefixes_26 ?_
  refine V_iconst (v := nI 0) x dX7_findPrefixes_29 (by decide +kernel) ?_
  refine V_istore_n x 1 [(1, .int (nI 0)), (0, .ref hM)] dX7_findPrefixes_30 rfl (by decide) rfl ?_
  have L31 : ∀ (k31 : Nat) (w : Nat) (pf1 : Nat) (lo1 : Nat → Nat) (hi1 : Nat → Nat) (dp1 : Nat → Nat) (hw : w ≤ cn) (hp1 : pf1 ≤ 1 + 7 * w) (e1 : mfO le sz cn lo hi dp w = (pf1, lo1, hi1, dp1)) (hk31 : cn - w = k31), V κ 0 0 [(hM, .inr (7, [.int (nI ft), .int (nI ty), .ref mTx, .int (nI wr), .ref mPg, .int (nI cn), .ref mLe, .ref mSz, .int (nI pf1), .ref mLo, .ref mHi, .ref mDp, .int (nI mn), .ref mFu, .ref mFv, .ref mRw, .ref mBl, .ref mWy, .ref mFe])), (mLe, .inl (cI, 217, .inl (fun i => nI (le i)))), (mSz, .inl (cI, 31, .inl (fun i => nI (sz i)))), (mLo, .inl (cI, 220, .inl (fun i => nI (lo1 i)))), (mHi, .inl (cI, 220, .inl (fun i => nI (hi1 i)))), (mDp, .inl (cI, 220, .inl (fun i => nI (dp1 i))))] 31 [(0, .ref hM), (1, .int (nI w))] [] := by
    intro k31
    induction k31 using Nat.strongRecOn with
    | ind k31 ih31 =>
      intro w pf1 lo1 hi1 dp1 hw hp1 e1 hk31
      refine V_iload_n x 1 dX7_findPrefixes_31 rfl rfl ?_
      refine V_aload_n x 0 dX7_findPrefixes_32 rfl rfl ?_
      refine V_get x 0 7 5 hinX7 rfl rfl (by decide) flX7_65 rfl dX7_findPrefixes_33 ?_
      refine V_icmp_geN x 147 dX7_findPrefixes_36 rfl (fun t36 => ?_) (fun f36 => ?_)
      · skip
        obtain rfl : w = cn := by omega
        rw [e1] at hret
        exact hret _ _ dX7_findPrefixes_147
      · skip
        refine V_iconst (v := nI 1) x dX7_findPrefixes_39 (by decide +kernel) ?_
        refine V_istore_n x 2 [(2, .int (nI 1)), (0, .ref hM), (1, .int (nI w))] dX7_findPrefixes_40 rfl (by decide) rfl ?_
        have L41 : ∀ (k41 : Nat) (j : Nat) (pf2 : Nat) (lo2 : Nat → Nat) (hi2 : Nat → Nat) (dp2 : Nat → Nat) (hj : j ≤ sz w) (hp2 : pf2 ≤ 1 + 7 * w + j) (e2 : mfI le sz cn w (pf1, lo1, hi1, dp1) j = (pf2, lo2, hi2, dp2)) (hk41 : sz w - j = k41), V κ 0 0 [(hM, .inr (7, [.int (nI ft), .int (nI ty), .ref mTx, .int (nI wr), .ref mPg, .int (nI cn), .ref mLe, .ref mSz, .int (nI pf2), .ref mLo, .ref mHi, .ref mDp, .int (nI mn), .ref mFu, .ref mFv, .ref mRw, .ref mBl, .ref mWy, .ref mFe])), (mLe, .inl (cI, 217, .inl (fun i => nI (le i)))), (mSz, .inl (cI, 31, .inl (fun i => nI (sz i)))), (mLo, .inl (cI, 220, .inl (fun i => nI (lo2 i)))), (mHi, .inl (cI, 220, .inl (fun i => nI (hi2 i)))), (mDp, .inl (cI, 220, .inl (fun i => nI (dp2 i))))] 41 [(0, .ref hM), (1, .int (nI w)), (2, .int (nI (j + 1)))] [] := by
          intro k41
          induction k41 using Nat.strongRecOn with
          | ind k41 ih41 =>
            intro j pf2 lo2 hi2 dp2 hj hp2 e2 hk41
            refine V_iload_n x 2 dX7_findPrefixes_41 rfl rfl ?_
            refine V_aload_n x 0 dX7_findPrefixes_42 rfl rfl ?_
            refine V_get x 0 7 7 hinX7 rfl rfl (by decide) flX7_19 rfl dX7_findPrefixes_43 ?_
            refine V_iload_n x 1 dX7_findPrefixes_46 rfl rfl ?_
            refine V_iald x 2 0 rfl rfl dX7_findPrefixes_47 (by omega) (by omega) ?_
            have hsw := hsz w
            refine V_icmp_gtN x 141 dX7_findPrefixes_48 rfl (fun t48 => ?_) (fun f48 => ?_)
            · skip
              refine V_iinc x 1 1 [(1, .int (nI (w + 1))), (0, .ref hM), (2, .int (nI (j + 1)))] dX7_findPrefixes_141 rfl (iinc_1 _) (by decide) rfl ?_
              refine V_goto x 31 dX7_findPrefixes_144 rfl ?_
              refine V.sub [1, 0] (lv' := [(0, .ref hM), (1, .int (nI ((w + 1))))]) rfl ?_
              exact ih31 (cn - (w + 1)) (by omega) (w + 1) pf2 lo2 hi2 dp2 (by omega) (by have := hsz w; omega) (by rw [mfO, e1, ← show j = sz w by omega, e2]) rfl
            · skip
              refine V_iload_n x 1 dX7_findPrefixes_51 rfl rfl ?_
              have J67 : (w = 0 ∨ msh le sz (w - 1) w (j + 1) (j + 1) = false) → V κ 0 0 [(hM, .inr (7, [.int (nI ft), .int (nI ty), .ref mTx, .int (nI wr), .ref mPg, .int (nI cn), .ref mLe, .ref mSz, .int (nI pf2), .ref mLo, .ref mHi, .ref mDp, .int (nI mn), .ref mFu, .ref mFv, .ref mRw, .ref mBl, .ref mWy, .ref mFe])), (mLe, .inl (cI, 217, .inl (fun i => nI (le i)))), (mSz, .inl (cI, 31, .inl (fun i => nI (sz i)))), (mLo, .inl (cI, 220, .inl (fun i => nI (lo2 i)))), (mHi, .inl (cI, 220, .inl (fun i => nI (hi2 i)))), (mDp, .inl (cI, 220, .inl (fun i => nI (dp2 i))))] 67 [(0, .ref hM), (1, .int (nI w)), (2, .int (nI (j + 1)))] [] := by
                intro hJ67
                refine V_iload_n x 1 dX7_findPrefixes_67 rfl rfl ?_
                refine V_iconst (v := nI 1) x dX7_findPrefixes_68 (by decide +kernel) ?_
                refine V_iadd x (nI (w + 1)) dX7_findPrefixes_69 (nI_add _ _) ?_
                refine V_istore_n x 3 [(3, .int (nI (w + 1))), (0, .ref hM), (1, .int (nI w)), (2, .int (nI (j + 1)))] dX7_findPrefixes_70 rfl (by decide) rfl ?_
                have L71 : ∀ (k71 : Nat) (e : Nat) (he : w + 1 ≤ e ∧ e ≤ cn) (e3 : mfe le sz w (j + 1) cn (31 - (e - (w + 1))) e = mfe le sz w (j + 1) cn 31 (w + 1)) (hk71 : cn - e = k71), V κ 0 0 [(hM, .inr (7, [.int (nI ft), .int (nI ty), .ref mTx, .int (nI wr), .ref mPg, .int (nI cn), .ref mLe, .ref mSz, .int (nI pf2), .ref mLo, .ref mHi, .ref mDp, .int (nI mn), .ref mFu, .ref mFv, .ref mRw, .ref mBl, .ref mWy, .ref mFe])), (mLe, .inl (cI, 217, .inl (fun i => nI (le i)))), (mSz, .inl (cI, 31, .inl (fun i => nI (sz i)))), (mLo, .inl (cI, 220, .inl (fun i => nI (lo2 i)))), (mHi, .inl (cI, 220, .inl (fun i => nI (hi2 i)))), (mDp, .inl (cI, 220, .inl (fun i => nI (dp2 i))))] 71 [(0, .ref hM), (1, .int (nI w)), (2, .int (nI (j + 1))), (3, .int (nI e))] [] := by
                  intro k71
                  induction k71 using Nat.strongRecOn with
                  | ind k71 ih71 =>
                    intro e he e3 hk71
                    refine V_iload_n x 3 dX7_findPrefixes_71 rfl rfl ?_
                    refine V_aload_n x 0 dX7_findPrefixes_72 rfl rfl ?_
                    refine V_get x 0 7 5 hinX7 rfl rfl (by decide) flX7_65 rfl dX7_findPrefixes_73 ?_
                    refine V_icmp_geN x 95 dX7_findPrefixes_76 rfl (fun t76 => ?_) (fun f76 => ?_)
                    · skip
                      have e9 : mfe le sz w (j + 1) cn 31 (w + 1) = e := by
                        rw [← e3]
                        first
                        | exact mfe_end (fun q => absurd q.1 (by omega)) _
                        | exact mfe_end (fun q => by rw [t86] at q; cases q.2) _
                      refine V_aload_n x 0 dX7_findPrefixes_95 rfl rfl ?_
                      refine V_get x 0 7 9 hinX7 rfl rfl (by decide) flX7_22 rfl dX7_findPrefixes_96 ?_
                      refine V_aload_n x 0 dX7_findPrefixes_99 rfl rfl ?_
                      refine V_get x 0 7 8 hinX7 rfl rfl (by decide) flX7_100 rfl dX7_findPrefixes_100 ?_
                      refine V_iload_n x 1 dX7_findPrefixes_103 rfl rfl ?_
                      refine V_iast x 3 0 nI lo2 w [(hM, .inr (7, [.int (nI ft), .int (nI ty), .ref mTx, .int (nI wr), .ref mPg, .int (nI cn), .ref mLe, .ref mSz, .int (nI pf2), .ref mLo, .ref mHi, .ref mDp, .int (nI mn), .ref mFu, .ref mFv, .ref mRw, .ref mBl, .ref mWy, .ref mFe])), (mLe, .inl (cI, 217, .inl (fun i => nI (le i)))), (mSz, .inl (cI, 31, .inl (fun i => nI (sz i)))), (mLo, .inl (cI, 220, .inl (fun i => nI ((va_up lo2 pf2 w) i)))), (mHi, .inl (cI, 220, .inl (fun i => nI (hi2 i)))), (mDp, .inl (cI, 220, .inl (fun i => nI (dp2 i))))] rfl rfl dX7_findPrefixes_104 (by omega) (by omega) rfl ?_
                      refine V_aload_n x 0 dX7_findPrefixes_105 rfl rfl ?_
                      refine V_get x 0 7 10 hinX7 rfl rfl (by decide) flX7_25 rfl dX7_findPrefixes_106 ?_
                      refine V_aload_n x 0 dX7_findPrefixes_109 rfl rfl ?_
                      refine V_get x 0 7 8 hinX7 rfl rfl (by decide) flX7_100 rfl dX7_findPrefixes_110 ?_
                      refine V_iload_n x 3 dX7_findPrefixes_113 rfl rfl ?_
                      refine V_iast x 4 0 nI hi2 e [(hM, .inr (7, [.int (nI ft), .int (nI ty), .ref mTx, .int (nI wr), .ref mPg, .int (nI cn), .ref mLe, .ref mSz, .int (nI pf2), .ref mLo, .ref mHi, .ref mDp, .int (nI mn), .ref mFu, .ref mFv, .ref mRw, .ref mBl, .ref mWy, .ref mFe])), (mLe, .inl (cI, 217, .inl (fun i => nI (le i)))), (mSz, .inl (cI, 31, .inl (fun i => nI (sz i)))), (mLo, .inl (cI, 220, .inl (fun i => nI ((va_up lo2 pf2 w) i)))), (mHi, .inl (cI, 220, .inl (fun i => nI ((va_up hi2 pf2 e) i)))), (mDp, .inl (cI, 220, .inl (fun i => nI (dp2 i))))] rfl rfl dX7_findPrefixes_114 (by omega) (by omega) rfl ?_
                      refine V_aload_n x 0 dX7_findPrefixes_115 rfl rfl ?_
                      refine V_get x 0 7 11 hinX7 rfl rfl (by decide) flX7_28 rfl dX7_findPrefixes_116 ?_
                      refine V_aload_n x 0 dX7_findPrefixes_119 rfl rfl ?_
                      refine V_get x 0 7 8 hinX7 rfl rfl (by decide) flX7_100 rfl dX7_findPrefixes_120 ?_
                      refine V_iload_n x 2 dX7_findPrefixes_123 rfl rfl ?_
                      refine V_iast x 5 0 nI dp2 (j + 1) [(hM, .inr (7, [.int (nI ft), .int (nI ty), .ref mTx, .int (nI wr), .ref mPg, .int (nI cn), .ref mLe, .ref mSz, .int (nI pf2), .ref mLo, .ref mHi, .ref mDp, .int (nI mn), .ref mFu, .ref mFv, .ref mRw, .ref mBl, .ref mWy, .ref mFe])), (mLe, .inl (cI, 217, .inl (fun i => nI (le i)))), (mSz, .inl (cI, 31, .inl (fun i => nI (sz i)))), (mLo, .inl (cI, 220, .inl (fun i => nI ((va_up lo2 pf2 w) i)))), (mHi, .inl (cI, 220, .inl (fun i => nI ((va_up hi2 pf2 e) i)))), (mDp, .inl (cI, 220, .inl (fun i => nI ((va_up dp2 pf2 (j + 1)) i))))] rfl rfl dX7_findPrefixes_124 (by omega) (by omega) rfl ?_
                      refine V_aload_n x 0 dX7_findPrefixes_125 rfl rfl ?_
                      refine V_dup x dX7_findPrefixes_126 rfl ?_
                      refine V_get x 0 7 8 hinX7 rfl rfl (by decide) flX7_100 rfl dX7_findPrefixes_127 ?_
                      refine V_iconst (v := nI 1) x dX7_findPrefixes_130 (by decide +kernel) ?_
                      refine V_iadd x (nI (pf2 + 1)) dX7_findPrefixes_131 (nI_add _ _) ?_
                      refine V_put (ty := .int) x 0 7 8 [(hM, .inr (7, [.int (nI ft), .int (nI ty), .ref mTx, .int (nI wr), .ref mPg, .int (nI cn), .ref mLe, .ref mSz, .int (nI (pf2 + 1)), .ref mLo, .ref mHi, .ref mDp, .int (nI mn), .ref mFu, .ref mFv, .ref mRw, .ref mBl, .ref mWy, .ref mFe])), (mLe, .inl (cI, 217, .inl (fun i => nI (le i)))), (mSz, .inl (cI, 31, .inl (fun i => nI (sz i)))), (mLo, .inl (cI, 220, .inl (fun i => nI ((va_up lo2 pf2 w) i)))), (mHi, .inl (cI, 220, .inl (fun i => nI ((va_up hi2 pf2 e) i)))), (mDp, .inl (cI, 220, .inl (fun i => nI ((va_up dp2 pf2 (j + 1)) i))))] hinX7 tyX7 tyX7_ok nmX7 rfl rfl (by decide) flX7_100 rfl (by decide +kernel) rfl rfl (Nat.le_of_ble_eq_true rfl) rfl dX7_findPrefixes_132 ?_
                      refine V_iinc x 2 2 [(2, .int (nI ((j + 1) + 1))), (0, .ref hM), (1, .int (nI w)), (3, .int (nI e))] dX7_findPrefixes_135 rfl (iinc_1 _) (by decide) rfl ?_
                      refine V_goto x 41 dX7_findPrefixes_138 rfl ?_
                      refine V.sub [1, 2, 0] (lv' := [(0, .ref hM), (1, .int (nI w)), (2, .int (nI ((j + 1) + 1)))]) rfl ?_
                      exact ih41 (sz w - (j + 1)) (by omega) (j + 1) (pf2 + 1) (va_up lo2 pf2 w) (va_up hi2 pf2 e) (va_up dp2 pf2 (j + 1)) (by omega) (by omega) (by rw [mfI, e2]; unfold mfS; first | (rw [if_neg (fun q => by rcases q with q | q; (exact absurd q (by omega)); (rw [t64] at q; cases q))]; done) | (rw [if_pos hJ67, e9])) rfl
                    · skip
                      refine V_aload_n x 0 dX7_findPrefixes_79 rfl rfl ?_
                      refine V_iload_n x 1 dX7_findPrefixes_80 rfl rfl ?_
                      refine V_iload_n x 3 dX7_findPrefixes_81 rfl rfl ?_
                      refine V_iload_n x 2 dX7_findPrefixes_82 rfl rfl ?_
                      refine V_callVi x (m_shares l D cI cZ cC cJ hM mTx mPg mLe mSz mLo mHi mDp mFu mFv mRw mBl mWy mFe ft ty wr cn pf2 mn le sz w e (j + 1) (by first | omega | assumption) (by first | omega | assumption) (by first | omega | assumption) (by first | omega | assumption) (by first | omega | assumption)) 3 (gdV mlX7_103 imX7_shares seX7_shares inX7 coX7_shares) rfl hdX7_shares ⟨Nat.le_of_ble_eq_true rfl, Nat.le_of_ble_eq_true rfl⟩ ⟨rfl, rfl⟩ 0 rfl rfl rfl [0, 1, 2] [(hM, .inr (7, [.int (nI ft), .int (nI ty), .ref mTx, .int (nI wr), .ref mPg, .int (nI cn), .ref mLe, .ref mSz, .int (nI pf2), .ref mLo, .ref mHi, .ref mDp, .int (nI mn), .ref mFu, .ref mFv, .ref mRw, .ref mBl, .ref mWy, .ref mFe])), (mLe, .inl (cI, 217, .inl (fun i => nI (le i)))), (mSz, .inl (cI, 31, .inl (fun i => nI (sz i)))), (mLo, .inl (cI, 220, .inl (fun i => nI (lo2 i)))), (mHi, .inl (cI, 220, .inl (fun i => nI (hi2 i)))), (mDp, .inl (cI, 220, .inl (fun i => nI (dp2 i))))] rfl rfl [hM, mLe, mSz] rfl rfl [some 0, some 1, some 2] rfl rfl (rest := []) rfl (Nat.le_of_ble_eq_true rfl) dX7_findPrefixes_83 ⟨Nat.zero_le _, Nat.zero_le _⟩ ?_
                      refine V_if_eqB x 95 dX7_findPrefixes_86 rfl (fun t86 => ?_) (fun f86 => ?_)
                      · skip
                        have e9 : mfe le sz w (j + 1) cn 31 (w + 1) = e := by
                          rw [← e3]
                          first
                          | exact mfe_end (fun q => absurd q.1 (by omega)) _
                          | exact mfe_end (fun q => by rw [t86] at q; cases q.2) _
                        refine V_aload_n x 0 dX7_findPrefixes_95 rfl rfl ?_
                        refine V_get x 0 7 9 hinX7 rfl rfl (by decide) flX7_22 rfl dX7_findPrefixes_96 ?_
                        refine V_aload_n x 0 dX7_findPrefixes_99 rfl rfl ?_
                        refine V_get x 0 7 8 hinX7 rfl rfl (by decide) flX7_100 rfl dX7_findPrefixes_100 ?_
                        refine V_iload_n x 1 dX7_findPrefixes_103 rfl rfl ?_
                        refine V_iast x 3 0 nI lo2 w [(hM, .inr (7, [.int (nI ft), .int (nI ty), .ref mTx, .int (nI wr), .ref mPg, .int (nI cn), .ref mLe, .ref mSz, .int (nI pf2), .ref mLo, .ref mHi, .ref mDp, .int (nI mn), .ref mFu, .ref mFv, .ref mRw, .ref mBl, .ref mWy, .ref mFe])), (mLe, .inl (cI, 217, .inl (fun i => nI (le i)))), (mSz, .inl (cI, 31, .inl (fun i => nI (sz i)))), (mLo, .inl (cI, 220, .inl (fun i => nI ((va_up lo2 pf2 w) i)))), (mHi, .inl (cI, 220, .inl (fun i => nI (hi2 i)))), (mDp, .inl (cI, 220, .inl (fun i => nI (dp2 i))))] rfl rfl dX7_findPrefixes_104 (by omega) (by omega) rfl ?_
                        refine V_aload_n x 0 dX7_findPrefixes_105 rfl rfl ?_
                        refine V_get x 0 7 10 hinX7 rfl rfl (by decide) flX7_25 rfl dX7_findPrefixes_106 ?_
                        refine V_aload_n x 0 dX7_findPrefixes_109 rfl rfl ?_
                        refine V_get x 0 7 8 hinX7 rfl rfl (by decide) flX7_100 rfl dX7_findPrefixes_110 ?_
                        refine V_iload_n x 3 dX7_findPrefixes_113 rfl rfl ?_
                        refine V_iast x 4 0 nI hi2 e [(hM, .inr (7, [.int (nI ft), .int (nI ty), .ref mTx, .int (nI wr), .ref mPg, .int (nI cn), .ref mLe, .ref mSz, .int (nI pf2), .ref mLo, .ref mHi, .ref mDp, .int (nI mn), .ref mFu, .ref mFv, .ref mRw, .ref mBl, .ref mWy, .ref mFe])), (mLe, .inl (cI, 217, .inl (fun i => nI (le i)))), (mSz, .inl (cI, 31, .inl (fun i => nI (sz i)))), (mLo, .inl (cI, 220, .inl (fun i => nI ((va_up lo2 pf2 w) i)))), (mHi, .inl (cI, 220, .inl (fun i => nI ((va_up hi2 pf2 e) i)))), (mDp, .inl (cI, 220, .inl (fun i => nI (dp2 i))))] rfl rfl dX7_findPrefixes_114 (by omega) (by omega) rfl ?_
                        refine V_aload_n x 0 dX7_findPrefixes_115 rfl rfl ?_
                        refine V_get x 0 7 11 hinX7 rfl rfl (by decide) flX7_28 rfl dX7_findPrefixes_116 ?_
                        refine V_aload_n x 0 dX7_findPrefixes_119 rfl rfl ?_
                        refine V_get x 0 7 8 hinX7 rfl rfl (by decide) flX7_100 rfl dX7_findPrefixes_120 ?_
                        refine V_iload_n x 2 dX7_findPrefixes_123 rfl rfl ?_
                        refine V_iast x 5 0 nI dp2 (j + 1) [(hM, .inr (7, [.int (nI ft), .int (nI ty), .ref mTx, .int (nI wr), .ref mPg, .int (nI cn), .ref mLe, .ref mSz, .int (nI pf2), .ref mLo, .ref mHi, .ref mDp, .int (nI mn), .ref mFu, .ref mFv, .ref mRw, .ref mBl, .ref mWy, .ref mFe])), (mLe, .inl (cI, 217, .inl (fun i => nI (le i)))), (mSz, .inl (cI, 31, .inl (fun i => nI (sz i)))), (mLo, .inl (cI, 220, .inl (fun i => nI ((va_up lo2 pf2 w) i)))), (mHi, .inl (cI, 220, .inl (fun i => nI ((va_up hi2 pf2 e) i)))), (mDp, .inl (cI, 220, .inl (fun i => nI ((va_up dp2 pf2 (j + 1)) i))))] rfl rfl dX7_findPrefixes_124 (by omega) (by omega) rfl ?_
                        refine V_aload_n x 0 dX7_findPrefixes_125 rfl rfl ?_
                        refine V_dup x dX7_findPrefixes_126 rfl ?_
                        refine V_get x 0 7 8 hinX7 rfl rfl (by decide) flX7_100 rfl dX7_findPrefixes_127 ?_
                        refine V_iconst (v := nI 1) x dX7_findPrefixes_130 (by decide +kernel) ?_
                        refine V_iadd x (nI (pf2 + 1)) dX7_findPrefixes_131 (nI_add _ _) ?_
                        refine V_put (ty := .int) x 0 7 8 [(hM, .inr (7, [.int (nI ft), .int (nI ty), .ref mTx, .int (nI wr), .ref mPg, .int (nI cn), .ref mLe, .ref mSz, .int (nI (pf2 + 1)), .ref mLo, .ref mHi, .ref mDp, .int (nI mn), .ref mFu, .ref mFv, .ref mRw, .ref mBl, .ref mWy, .ref mFe])), (mLe, .inl (cI, 217, .inl (fun i => nI (le i)))), (mSz, .inl (cI, 31, .inl (fun i => nI (sz i)))), (mLo, .inl (cI, 220, .inl (fun i => nI ((va_up lo2 pf2 w) i)))), (mHi, .inl (cI, 220, .inl (fun i => nI ((va_up hi2 pf2 e) i)))), (mDp, .inl (cI, 220, .inl (fun i => nI ((va_up dp2 pf2 (j + 1)) i))))] hinX7 tyX7 tyX7_ok nmX7 rfl rfl (by decide) flX7_100 rfl (by decide +kernel) rfl rfl (Nat.le_of_ble_eq_true rfl) rfl dX7_findPrefixes_132 ?_
                        refine V_iinc x 2 2 [(2, .int (nI ((j + 1) + 1))), (0, .ref hM), (1, .int (nI w)), (3, .int (nI e))] dX7_findPrefixes_135 rfl (iinc_1 _) (by decide) rfl ?_
                        refine V_goto x 41 dX7_findPrefixes_138 rfl ?_
                        refine V.sub [1, 2, 0] (lv' := [(0, .ref hM), (1, .int (nI w)), (2, .int (nI ((j + 1) + 1)))]) rfl ?_
                        exact ih41 (sz w - (j + 1)) (by omega) (j + 1) (pf2 + 1) (va_up lo2 pf2 w) (va_up hi2 pf2 e) (va_up dp2 pf2 (j + 1)) (by omega) (by omega) (by rw [mfI, e2]; unfold mfS; first | (rw [if_neg (fun q => by rcases q with q | q; (exact absurd q (by omega)); (rw [t64] at q; cases q))]; done) | (rw [if_pos hJ67, e9])) rfl
                      · skip
                        refine V_iinc x 3 3 [(3, .int (nI (e + 1))), (0, .ref hM), (1, .int (nI w)), (2, .int (nI (j + 1)))] dX7_findPrefixes_89 rfl (iinc_1 _) (by decide) rfl ?_
                        refine V_goto x 71 dX7_findPrefixes_92 rfl ?_
                        refine V.sub [1, 2, 3, 0] (lv' := [(0, .ref hM), (1, .int (nI w)), (2, .int (nI (j + 1))), (3, .int (nI ((e + 1))))]) rfl ?_
                        exact ih71 (cn - (e + 1)) (by omega) (e + 1) (by omega) (by rw [← e3, show 31 - (e - (w + 1)) = (31 - (e + 1 - (w + 1))) + 1 by omega, mfe_next ⟨by omega, f86⟩]) rfl
                refine V.sub [1, 2, 3, 0] (lv' := [(0, .ref hM), (1, .int (nI w)), (2, .int (nI (j + 1))), (3, .int (nI ((w + 1))))]) rfl ?_
                exact L71 _ (w + 1) (by omega) (by rw [Nat.sub_self]) rfl
              refine V_if_eqN x 67 dX7_findPrefixes_52 rfl (fun t52 => ?_) (fun f52 => ?_)
              · skip
                exact J67 (by first | exact Or.inl t52 | exact Or.inr f64)
              · skip
                refine V_aload_n x 0 dX7_findPrefixes_55 rfl rfl ?_
                refine V_iload_n x 1 dX7_findPrefixes_56 rfl rfl ?_
                refine V_iconst (v := nI 1) x dX7_findPrefixes_57 (by decide +kernel) ?_
                refine V_isub x (nI (w - 1)) dX7_findPrefixes_58 (pk_sub (by omega)) ?_
                refine V_iload_n x 1 dX7_findPrefixes_59 rfl rfl ?_
                refine V_iload_n x 2 dX7_findPrefixes_60 rfl rfl ?_
                refine V_callVi x (m_shares l D cI cZ cC cJ hM mTx mPg mLe mSz mLo mHi mDp mFu mFv mRw mBl mWy mFe ft ty wr cn pf2 mn le sz (w - 1) w (j + 1) (by first | omega | assumption) (by first | omega | assumption) (by first | omega | assumption) (by first | omega | assumption) (by first | omega | assumption)) 3 (gdV mlX7_103 imX7_shares seX7_shares inX7 coX7_shares) rfl hdX7_shares ⟨Nat.le_of_ble_eq_true rfl, Nat.le_of_ble_eq_true rfl⟩ ⟨rfl, rfl⟩ 0 rfl rfl rfl [0, 1, 2] [(hM, .inr (7, [.int (nI ft), .int (nI ty), .ref mTx, .int (nI wr), .ref mPg, .int (nI cn), .ref mLe, .ref mSz, .int (nI pf2), .ref mLo, .ref mHi, .ref mDp, .int (nI mn), .ref mFu, .ref mFv, .ref mRw, .ref mBl, .ref mWy, .ref mFe])), (mLe, .inl (cI, 217, .inl (fun i => nI (le i)))), (mSz, .inl (cI, 31, .inl (fun i => nI (sz i)))), (mLo, .inl (cI, 220, .inl (fun i => nI (lo2 i)))), (mHi, .inl (cI, 220, .inl (fun i => nI (hi2 i)))), (mDp, .inl (cI, 220, .inl (fun i => nI (dp2 i))))] rfl rfl [hM, mLe, mSz] rfl rfl [some 0, some 1, some 2] rfl rfl (rest := []) rfl (Nat.le_of_ble_eq_true rfl) dX7_findPrefixes_61 ⟨Nat.zero_le _, Nat.zero_le _⟩ ?_
                refine V_if_neB x 135 dX7_findPrefixes_64 rfl (fun t64 => ?_) (fun f64 => ?_)
                · skip
                  refine V_iinc x 2 2 [(2, .int (nI ((j + 1) + 1))), (0, .ref hM), (1, .int (nI w))] dX7_findPrefixes_135 rfl (iinc_1 _) (by decide) rfl ?_
                  refine V_goto x 41 dX7_findPrefixes_138 rfl ?_
                  refine V.sub [1, 2, 0] (lv' := [(0, .ref hM), (1, .int (nI w)), (2, .int (nI ((j + 1) + 1)))]) rfl ?_
                  exact ih41 (sz w - (j + 1)) (by omega) (j + 1) pf2 lo2 hi2 dp2 (by omega) (by omega) (by rw [mfI, e2]; unfold mfS; first | (rw [if_neg (fun q => by rcases q with q | q; (exact absurd q (by omega)); (rw [t64] at q; cases q))]; done) | (rw [if_pos hJ67, e9])) rfl
                · skip
                  exact J67 (by first | exact Or.inl t52 | exact Or.inr f64)
        refine V.sub [1, 2, 0] (lv' := [(0, .ref hM), (1, .int (nI w)), (2, .int (nI (0 + 1)))]) rfl ?_
        exact L41 _ 0 pf1 lo1 hi1 dp1 (by omega) (by omega) rfl rfl
  refine V.sub [1, 0] (lv' := [(0, .ref hM), (1, .int (nI 0))]) rfl ?_
  exact L31 _ 0 1 (va_up lo 0 0) (va_up hi 0 cn) (va_up dp 0 0) (by omega) (by omega) rfl rfl
set_option maxHeartbeats 4000000 in
set_option maxRecDepth 100000 in
theorem m_areAlike (l : Launch) (D : va_G) (cI cZ cC cJ : ClassId) (hM mTx mPg mLe mSz mLo mHi mDp mFu mFv mRw mBl mWy mFe : Nat) (ft : Nat) (ty : Nat) (wr : Nat) (cn : Nat) (pf : Nat) (mn : Nat) (le : Nat → Nat) (sz : Nat → Nat) (lo : Nat → Nat) (hi : Nat → Nat) (dp : Nat → Nat) (p : Nat) (q : Nat) (hp : p < 220) (hq : q < 220) (vp : vpr sz lo hi dp p) (vq : vpr sz lo hi dp q) (hle : ∀ i, le i ≤ 8) (hsz : ∀ i, sz i ≤ 7) : CI l yX7_areAlike wsX7_areAlike { frames := 0, cells := 0, slots := 0, locals := 0 } D vwCl (tys4 cI cZ cC cJ) [.ref hM, .int (nI p), .int (nI q)] [(hM, .inr (7, [.int (nI ft), .int (nI ty), .ref mTx, .int (nI wr), .ref mPg, .int (nI cn), .ref mLe, .ref mSz, .int (nI pf), .ref mLo, .ref mHi, .ref mDp, .int (nI mn), .ref mFu, .ref mFv, .ref mRw, .ref mBl, .ref mWy, .ref mFe])), (mLe, .inl (cI, 217, .inl (fun i => nI (le i)))), (mSz, .inl (cI, 31, .inl (fun i => nI (sz i)))), (mLo, .inl (cI, 220, .inl (fun i => nI (lo i)))), (mHi, .inl (cI, 220, .inl (fun i => nI (hi i)))), (mDp, .inl (cI, 220, .inl (fun i => nI (dp i))))] ((bI (mal le sz lo hi dp p q))) [(hM, .inr (7, [.int (nI ft), .int (nI ty), .ref mTx, .int (nI wr), .ref mPg, .int (nI cn), .ref mLe, .ref mSz, .int (nI pf), .ref mLo, .ref mHi, .ref mDp, .int (nI mn), .ref mFu, .ref mFv, .ref mRw, .ref mBl, .ref mWy, .ref mFe])), (mLe, .inl (cI, 217, .inl (fun i => nI (le i)))), (mSz, .inl (cI, 31, .inl (fun i => nI (sz i)))), (mLo, .inl (cI, 220, .inl (fun i => nI (lo i)))), (mHi, .inl (cI, 220, .inl (fun i => nI (hi i)))), (mDp, .inl (cI, 220, .inl (fun i => nI (dp i))))] := by
  refine CI.ofV (nar_bI2 _) (by decide +kernel) rfl (Nat.le_of_ble_eq_true rfl) ?_
  intro κ x hret
  obtain ⟨vp1, vp2, vp3⟩ := vp
  obtain ⟨vq1, vq2, vq3⟩ := vq
  refine V_aload_n x 0 dX7_areAlike_0 rfl rfl ?_
  refine V_get x 0 7 10 hinX7 rfl rfl (by decide) flX7_25 rfl dX7_areAlike_1 ?_
  refine V_iload_n x 1 dX7_areAlike_4 rfl rfl ?_
  refine V_iald x 4 0 rfl rfl dX7_areAlike_5 (by omega) (by omega) ?_
  refine V_aload_n x 0 dX7_areAlike_6 rfl rfl ?_
  refine V_get x 0 7 9 hinX7 rfl rfl (by decide) flX7_22 rfl dX7_areAlike_7 ?_
  refine V_iload_n x 1 dX7_areAlike_10 rfl rfl ?_
  refine V_iald x 3 0 rfl rfl dX7_areAlike_11 (by omega) (by omega) ?_
  refine V_isub x (nI ((hi p) - (lo p))) dX7_areAlike_12 (pk_sub (by omega)) ?_
  refine V_aload_n x 0 dX7_areAlike_13 rfl rfl ?_
  refine V_get x 0 7 10 hinX7 rfl rfl (by decide) flX7_25 rfl dX7_areAlike_14 ?_
  refine V_iload_n x 2 dX7_areAlike_17 rfl rfl ?_
  refine V_iald x 4 0 rfl rfl dX7_areAlike_18 (by omega) (by omega) ?_
  refine V_aload_n x 0 dX7_areAlike_19 rfl rfl ?_
  refine V_get x 0 7 9 hinX7 rfl rfl (by decide) flX7_22 rfl dX7_areAlike_20 ?_
  refine V_iload_n x 2 dX7_areAlike_23 rfl rfl ?_
  refine V_iald x 3 0 rfl rfl dX7_areAlike_24 (by omega) (by omega) ?_
  refine V_isub x (nI ((hi q) - (lo q))) dX7_areAlike_25 (pk_sub (by omega)) ?_
  have J34 : V κ 0 0 [(hM, .inr (7, [.int (nI ft), .int (nI ty), .ref mTx, .int (nI wr), .ref mPg, .int (nI cn), .ref mLe, .ref mSz, .int (nI pf), .ref mLo, .ref mHi, .ref mDp, .int (nI mn), .ref mFu, .ref mFv, .ref mRw, .ref mBl, .ref mWy, .ref mFe])), (mLe, .inl (cI, 217, .inl (fun i => nI (le i)))), (mSz, .inl (cI, 31, .inl (fun i => nI (sz i)))), (mLo, .inl (cI, 220, .inl (fun i => nI (lo i)))), (mHi, .inl (cI, 220, .inl (fun i => nI (hi i)))), (mDp, .inl (cI, 220, .inl (fun i => nI (dp i))))] 34 [(0, .ref hM), (1, .int (nI p)), (2, .int (nI q))] [.int (bI (decide (hi p - lo p = hi q - lo q)))] := by
    refine V_istore_n x 3 [(3, .int (bI (decide (hi p - lo p = hi q - lo q)))), (0, .ref hM), (1, .int (nI p)), (2, .int (nI q))] dX7_areAlike_34 rfl (by decide) rfl ?_
    refine V_iconst (v := nI 0) x dX7_areAlike_35 (by decide +kernel) ?_
    refine V_istore x 4 [(4, .int (nI 0)), (3, .int (bI (decide (hi p - lo p = hi q - lo q)))), (0, .ref hM), (1, .int (nI p)), (2, .int (nI q))] dX7_areAlike_36 (by decide) rfl ?_
    have L38 : ∀ (k38 : Nat) (k : Nat) (b1 : Bool) (hk : k ≤ hi p - lo p) (e1 : maO le sz lo hi dp p q k = b1) (hk38 : hi p - lo p - k = k38), V κ 0 0 [(hM, .inr (7, [.int (nI ft), .int (nI ty), .ref mTx, .int (nI wr), .ref mPg, .int (nI cn), .ref mLe, .ref mSz, .int (nI pf), .ref mLo, .ref mHi, .ref mDp, .int (nI mn), .ref mFu, .ref mFv, .ref mRw, .ref mBl, .ref mWy, .ref mFe])), (mLe, .inl (cI, 217, .inl (fun i => nI (le i)))), (mSz, .inl (cI, 31, .inl (fun i => nI (sz i)))), (mLo, .inl (cI, 220, .inl (fun i => nI (lo i)))), (mHi, .inl (cI, 220, .inl (fun i => nI (hi i)))), (mDp, .inl (cI, 220, .inl (fun i => nI (dp i))))] 38 [(0, .ref hM), (1, .int (nI p)), (2, .int (nI q)), (3, .int (bI b1)), (4, .int (nI k))] [] := by
      intro k38
      induction k38 using Nat.strongRecOn with
      | ind k38 ih38 =>
        intro k b1 hk e1 hk38
        refine V_iload x 4 dX7_areAlike_38 rfl ?_
        refine V_aload_n x 0 dX7_areAlike_40 rfl rfl ?_
        refine V_get x 0 7 10 hinX7 rfl rfl (by decide) flX7_25 rfl dX7_areAlike_41 ?_
        refine V_iload_n x 1 dX7_areAlike_44 rfl rfl ?_
        refine V_iald x 4 0 rfl rfl dX7_areAlike_45 (by omega) (by omega) ?_
        refine V_aload_n x 0 dX7_areAlike_46 rfl rfl ?_
        refine V_get x 0 7 9 hinX7 rfl rfl (by decide) flX7_22 rfl dX7_areAlike_47 ?_
        refine V_iload_n x 1 dX7_areAlike_50 rfl rfl ?_
        refine V_iald x 3 0 rfl rfl dX7_areAlike_51 (by omega) (by omega) ?_
        refine V_isub x (nI ((hi p) - (lo p))) dX7_areAlike_52 (pk_sub (by omega)) ?_
        refine V_icmp_geN x 198 dX7_areAlike_53 rfl (fun t53 => ?_) (fun f53 => ?_)
        · skip
          refine V_iload_n x 3 dX7_areAlike_198 rfl rfl ?_
          refine V.ci (x' := bI (mal le sz lo hi dp p q)) (by unfold mal; first | (rw [← show k = hi p - lo p by omega, e1]; done) | (rw [maO_false (e1.trans t57) (show k ≤ hi p - lo p by omega), t57])) ?_
          exact hret _ _ dX7_areAlike_199
        · skip
          refine V_iload_n x 3 dX7_areAlike_56 rfl rfl ?_
          refine V_if_eqB x 198 dX7_areAlike_57 rfl (fun t57 => ?_) (fun f57 => ?_)
          · skip
            refine V_iload_n x 3 dX7_areAlike_198 rfl rfl ?_
            refine V.ci (x' := bI (mal le sz lo hi dp p q)) (by unfold mal; first | (rw [← show k = hi p - lo p by omega, e1]; done) | (rw [maO_false (e1.trans t57) (show k ≤ hi p - lo p by omega), t57])) ?_
            exact hret _ _ dX7_areAlike_199
          · skip
            have hn1 := maO_n (e1.trans f57)
            have hd1 := vp3 (lo p + k) (by omega) (by omega)
            have hd2 := vq3 (lo q + k) (by omega) (by omega)
            have hs1 := hsz (lo p + k)
            have hs2 := hsz (lo q + k)
            refine V_aload_n x 0 dX7_areAlike_60 rfl rfl ?_
            refine V_get x 0 7 9 hinX7 rfl rfl (by decide) flX7_22 rfl dX7_areAlike_61 ?_
            refine V_iload_n x 1 dX7_areAlike_64 rfl rfl ?_
            refine V_iald x 3 0 rfl rfl dX7_areAlike_65 (by omega) (by omega) ?_
            refine V_iload x 4 dX7_areAlike_66 rfl ?_
            refine V_iadd x (nI ((lo p) + k)) dX7_areAlike_68 (nI_add _ _) ?_
            refine V_istore x 5 [(5, .int (nI ((lo p) + k))), (0, .ref hM), (1, .int (nI p)), (2, .int (nI q)), (3, .int (bI b1)), (4, .int (nI k))] dX7_areAlike_69 (by decide) rfl ?_
            refine V_aload_n x 0 dX7_areAlike_71 rfl rfl ?_
            refine V_get x 0 7 9 hinX7 rfl rfl (by decide) flX7_22 rfl dX7_areAlike_72 ?_
            refine V_iload_n x 2 dX7_areAlike_75 rfl rfl ?_
            refine V_iald x 3 0 rfl rfl dX7_areAlike_76 (by omega) (by omega) ?_
            refine V_iload x 4 dX7_areAlike_77 rfl ?_
            refine V_iadd x (nI ((lo q) + k)) dX7_areAlike_79 (nI_add _ _) ?_
            refine V_istore x 6 [(6, .int (nI ((lo q) + k))), (5, .int (nI ((lo p) + k))), (0, .ref hM), (1, .int (nI p)), (2, .int (nI q)), (3, .int (bI b1)), (4, .int (nI k))] dX7_areAlike_80 (by decide) rfl ?_
            refine V_aload_n x 0 dX7_areAlike_82 rfl rfl ?_
            refine V_get x 0 7 7 hinX7 rfl rfl (by decide) flX7_19 rfl dX7_areAlike_83 ?_
            refine V_iload x 5 dX7_areAlike_86 rfl ?_
            refine V_iald x 2 0 rfl rfl dX7_areAlike_88 (by omega) (by omega) ?_
            refine V_aload_n x 0 dX7_areAlike_89 rfl rfl ?_
            refine V_get x 0 7 11 hinX7 rfl rfl (by decide) flX7_28 rfl dX7_areAlike_90 ?_
            refine V_iload_n x 1 dX7_areAlike_93 rfl rfl ?_
            refine V_iald x 5 0 rfl rfl dX7_areAlike_94 (by omega) (by omega) ?_
            refine V_isub x (nI ((sz ((lo p) + k)) - (dp p))) dX7_areAlike_95 (pk_sub (by omega)) ?_
            refine V_istore x 7 [(7, .int (nI ((sz ((lo p) + k)) - (dp p)))), (6, .int (nI ((lo q) + k))), (5, .int (nI ((lo p) + k))), (0, .ref hM), (1, .int (nI p)), (2, .int (nI q)), (3, .int (bI b1)), (4, .int (nI k))] dX7_areAlike_96 (by decide) rfl ?_
            refine V_iload x 7 dX7_areAlike_98 rfl ?_
            refine V_aload_n x 0 dX7_areAlike_100 rfl rfl ?_
            refine V_get x 0 7 7 hinX7 rfl rfl (by decide) flX7_19 rfl dX7_areAlike_101 ?_
            refine V_iload x 6 dX7_areAlike_104 rfl ?_
            refine V_iald x 2 0 rfl rfl dX7_areAlike_106 (by omega) (by omega) ?_
            refine V_aload_n x 0 dX7_areAlike_107 rfl rfl ?_
            refine V_get x 0 7 11 hinX7 rfl rfl (by decide) flX7_28 rfl dX7_areAlike_108 ?_
            refine V_iload_n x 2 dX7_areAlike_111 rfl rfl ?_
            refine V_iald x 5 0 rfl rfl dX7_areAlike_112 (by omega) (by omega) ?_
            refine V_isub x (nI ((sz ((lo q) + k)) - (dp q))) dX7_areAlike_113 (pk_sub (by omega)) ?_
            have J122 : V κ 0 0 [(hM, .inr (7, [.int (nI ft), .int (nI ty), .ref mTx, .int (nI wr), .ref mPg, .int (nI cn), .ref mLe, .ref mSz, .int (nI pf), .ref mLo, .ref mHi, .ref mDp, .int (nI mn), .ref mFu, .ref mFv, .ref mRw, .ref mBl, .ref mWy, .ref mFe])), (mLe, .inl (cI, 217, .inl (fun i => nI (le i)))), (mSz, .inl (cI, 31, .inl (fun i => nI (sz i)))), (mLo, .inl (cI, 220, .inl (fun i => nI (lo i)))), (mHi, .inl (cI, 220, .inl (fun i => nI (hi i)))), (mDp, .inl (cI, 220, .inl (fun i => nI (dp i))))] 122 [(7, .int (nI ((sz ((lo p) + k)) - (dp p)))), (6, .int (nI ((lo q) + k))), (5, .int (nI ((lo p) + k))), (0, .ref hM), (1, .int (nI p)), (2, .int (nI q)), (3, .int (bI b1)), (4, .int (nI k))] [.int (bI (decide (sz (lo p + k) - dp p = sz (lo q + k) - dp q)))] := by
              refine V_istore_n x 3 [(3, .int (bI (decide (sz (lo p + k) - dp p = sz (lo q + k) - dp q)))), (7, .int (nI ((sz ((lo p) + k)) - (dp p)))), (6, .int (nI ((lo q) + k))), (5, .int (nI ((lo p) + k))), (0, .ref hM), (1, .int (nI p)), (2, .int (nI q)), (4, .int (nI k))] dX7_areAlike_122 rfl (by decide) rfl ?_
              refine V_iconst (v := nI 0) x dX7_areAlike_123 (by decide +kernel) ?_
              refine V_istore x 8 [(8, .int (nI 0)), (3, .int (bI (decide (sz (lo p + k) - dp p = sz (lo q + k) - dp q)))), (7, .int (nI ((sz ((lo p) + k)) - (dp p)))), (6, .int (nI ((lo q) + k))), (5, .int (nI ((lo p) + k))), (0, .ref hM), (1, .int (nI p)), (2, .int (nI q)), (4, .int (nI k))] dX7_areAlike_124 (by decide) rfl ?_
              have L126 : ∀ (k126 : Nat) (j : Nat) (b2 : Bool) (hj : j ≤ sz (lo p + k) - dp p) (e2 : maI le sz (lo p + k) (lo q + k) (dp p) (dp q) j = b2) (hk126 : sz (lo p + k) - dp p - j = k126), V κ 0 0 [(hM, .inr (7, [.int (nI ft), .int (nI ty), .ref mTx, .int (nI wr), .ref mPg, .int (nI cn), .ref mLe, .ref mSz, .int (nI pf), .ref mLo, .ref mHi, .ref mDp, .int (nI mn), .ref mFu, .ref mFv, .ref mRw, .ref mBl, .ref mWy, .ref mFe])), (mLe, .inl (cI, 217, .inl (fun i => nI (le i)))), (mSz, .inl (cI, 31, .inl (fun i => nI (sz i)))), (mLo, .inl (cI, 220, .inl (fun i => nI (lo i)))), (mHi, .inl (cI, 220, .inl (fun i => nI (hi i)))), (mDp, .inl (cI, 220, .inl (fun i => nI (dp i))))] 126 [(0, .ref hM), (1, .int (nI p)), (2, .int (nI q)), (3, .int (bI b2)), (4, .int (nI k)), (5, .int (nI (lo p + k))), (6, .int (nI (lo q + k))), (7, .int (nI (sz (lo p + k) - dp p))), (8, .int (nI j))] [] := by
                intro k126
                induction k126 using Nat.strongRecOn with
                | ind k126 ih126 =>
                  intro j b2 hj e2 hk126
                  refine V_iload x 8 dX7_areAlike_126 rfl ?_
                  refine V_iload x 7 dX7_areAlike_128 rfl ?_
                  refine V_icmp_geN x 192 dX7_areAlike_130 rfl (fun t130 => ?_) (fun f130 => ?_)
                  · skip
                    refine V_iinc x 4 4 [(4, .int (nI (k + 1))), (0, .ref hM), (1, .int (nI p)), (2, .int (nI q)), (3, .int (bI b2)), (5, .int (nI (lo p + k))), (6, .int (nI (lo q + k))), (7, .int (nI (sz (lo p + k) - dp p))), (8, .int (nI j))] dX7_areAlike_192 rfl (iinc_1 _) (by decide) rfl ?_
                    refine V_goto x 38 dX7_areAlike_195 rfl ?_
                    refine V.sub [1, 2, 3, 4, 0] (lv' := [(0, .ref hM), (1, .int (nI p)), (2, .int (nI q)), (3, .int (bI b2)), (4, .int (nI ((k + 1))))]) rfl ?_
                    exact ih38 (hi p - lo p - (k + 1)) (by omega) (k + 1) b2 (by omega) (by rw [maO, e1, f57]; first | (rw [← show j = sz (lo p + k) - dp p by omega, e2]; rfl) | (rw [maI_false (e2.trans t134) (show j ≤ sz (lo p + k) - dp p by omega), t134]; rfl)) rfl
                  · skip
                    refine V_iload_n x 3 dX7_areAlike_133 rfl rfl ?_
                    refine V_if_eqB x 192 dX7_areAlike_134 rfl (fun t134 => ?_) (fun f134 => ?_)
                    · skip
                      refine V_iinc x 4 4 [(4, .int (nI (k + 1))), (0, .ref hM), (1, .int (nI p)), (2, .int (nI q)), (3, .int (bI b2)), (5, .int (nI (lo p + k))), (6, .int (nI (lo q + k))), (7, .int (nI (sz (lo p + k) - dp p))), (8, .int (nI j))] dX7_areAlike_192 rfl (iinc_1 _) (by decide) rfl ?_
                      refine V_goto x 38 dX7_areAlike_195 rfl ?_
                      refine V.sub [1, 2, 3, 4, 0] (lv' := [(0, .ref hM), (1, .int (nI p)), (2, .int (nI q)), (3, .int (bI b2)), (4, .int (nI ((k + 1))))]) rfl ?_
                      exact ih38 (hi p - lo p - (k + 1)) (by omega) (k + 1) b2 (by omega) (by rw [maO, e1, f57]; first | (rw [← show j = sz (lo p + k) - dp p by omega, e2]; rfl) | (rw [maI_false (e2.trans t134) (show j ≤ sz (lo p + k) - dp p by omega), t134]; rfl)) rfl
                    · skip
                      have hn2 := maI_n (e2.trans f134)
                      have hl1 := hle (7 * (lo p + k) + dp p + j)
                      have hl2 := hle (7 * (lo q + k) + dp q + j)
                      refine V_aload_n x 0 dX7_areAlike_137 rfl rfl ?_
                      refine V_get x 0 7 6 hinX7 rfl rfl (by decide) flX7_16 rfl dX7_areAlike_138 ?_
                      refine V_bipush (v := nI 7) x dX7_areAlike_141 (by decide +kernel) ?_
                      refine V_iload x 5 dX7_areAlike_143 rfl ?_
                      refine V_imul x (nI (7 * (lo p + k))) dX7_areAlike_145 (pk_mul _ _) ?_
                      refine V_aload_n x 0 dX7_areAlike_146 rfl rfl ?_
                      refine V_get x 0 7 11 hinX7 rfl rfl (by decide) flX7_28 rfl dX7_areAlike_147 ?_
                      refine V_iload_n x 1 dX7_areAlike_150 rfl rfl ?_
                      refine V_iald x 5 0 rfl rfl dX7_areAlike_151 (by omega) (by omega) ?_
                      refine V_iadd x (nI ((7 * (lo p + k)) + (dp p))) dX7_areAlike_152 (nI_add _ _) ?_
                      refine V_iload x 8 dX7_areAlike_153 rfl ?_
                      refine V_iadd x (nI (((7 * (lo p + k)) + (dp p)) + j)) dX7_areAlike_155 (nI_add _ _) ?_
                      refine V_iald x 1 0 rfl rfl dX7_areAlike_156 (by omega) (by omega) ?_
                      refine V_aload_n x 0 dX7_areAlike_157 rfl rfl ?_
                      refine V_get x 0 7 6 hinX7 rfl rfl (by decide) flX7_16 rfl dX7_areAlike_158 ?_
                      refine V_bipush (v := nI 7) x dX7_areAlike_161 (by decide +kernel) ?_
                      refine V_iload x 6 dX7_areAlike_163 rfl ?_
                      refine V_imul x (nI (7 * (lo q + k))) dX7_areAlike_165 (pk_mul _ _) ?_
                      refine V_aload_n x 0 dX7_areAlike_166 rfl rfl ?_
                      refine V_get x 0 7 11 hinX7 rfl rfl (by decide) flX7_28 rfl dX7_areAlike_167 ?_
                      refine V_iload_n x 2 dX7_areAlike_170 rfl rfl ?_
                      refine V_iald x 5 0 rfl rfl dX7_areAlike_171 (by omega) (by omega) ?_
                      refine V_iadd x (nI ((7 * (lo q + k)) + (dp q))) dX7_areAlike_172 (nI_add _ _) ?_
                      refine V_iload x 8 dX7_areAlike_173 rfl ?_
                      refine V_iadd x (nI (((7 * (lo q + k)) + (dp q)) + j)) dX7_areAlike_175 (nI_add _ _) ?_
                      refine V_iald x 1 0 rfl rfl dX7_areAlike_176 (by omega) (by omega) ?_
                      have J185 : V κ 0 0 [(hM, .inr (7, [.int (nI ft), .int (nI ty), .ref mTx, .int (nI wr), .ref mPg, .int (nI cn), .ref mLe, .ref mSz, .int (nI pf), .ref mLo, .ref mHi, .ref mDp, .int (nI mn), .ref mFu, .ref mFv, .ref mRw, .ref mBl, .ref mWy, .ref mFe])), (mLe, .inl (cI, 217, .inl (fun i => nI (le i)))), (mSz, .inl (cI, 31, .inl (fun i => nI (sz i)))), (mLo, .inl (cI, 220, .inl (fun i => nI (lo i)))), (mHi, .inl (cI, 220, .inl (fun i => nI (hi i)))), (mDp, .inl (cI, 220, .inl (fun i => nI (dp i))))] 185 [(0, .ref hM), (1, .int (nI p)), (2, .int (nI q)), (3, .int (bI b2)), (4, .int (nI k)), (5, .int (nI (lo p + k))), (6, .int (nI (lo q + k))), (7, .int (nI (sz (lo p + k) - dp p))), (8, .int (nI j))] [.int (bI (decide (le (7 * (lo p + k) + dp p + j) = le (7 * (lo q + k) + dp q + j))))] := by
                        refine V_istore_n x 3 [(3, .int (bI (decide (le (7 * (lo p + k) + dp p + j) = le (7 * (lo q + k) + dp q + j))))), (0, .ref hM), (1, .int (nI p)), (2, .int (nI q)), (4, .int (nI k)), (5, .int (nI (lo p + k))), (6, .int (nI (lo q + k))), (7, .int (nI (sz (lo p + k) - dp p))), (8, .int (nI j))] dX7_areAlike_185 rfl (by decide) rfl ?_
                        refine V_iinc x 8 8 [(8, .int (nI (j + 1))), (3, .int (bI (decide (le (7 * (lo p + k) + dp p + j) = le (7 * (lo q + k) + dp q + j))))), (0, .ref hM), (1, .int (nI p)), (2, .int (nI q)), (4, .int (nI k)), (5, .int (nI (lo p + k))), (6, .int (nI (lo q + k))), (7, .int (nI (sz (lo p + k) - dp p)))] dX7_areAlike_186 rfl (iinc_1 _) (by decide) rfl ?_
                        refine V_goto x 126 dX7_areAlike_189 rfl ?_
                        refine V.sub [2, 3, 4, 1, 5, 6, 7, 8, 0] (lv' := [(0, .ref hM), (1, .int (nI p)), (2, .int (nI q)), (3, .int (bI ((decide (le (7 * (lo p + k) + dp p + j) = le (7 * (lo q + k) + dp q + j)))))), (4, .int (nI k)), (5, .int (nI (lo p + k))), (6, .int (nI (lo q + k))), (7, .int (nI (sz (lo p + k) - dp p))), (8, .int (nI ((j + 1))))]) rfl ?_
                        exact ih126 (sz (lo p + k) - dp p - (j + 1)) (by omega) (j + 1) (decide (le (7 * (lo p + k) + dp p + j) = le (7 * (lo q + k) + dp q + j))) (by omega) (by rw [maI, e2, f134]; rfl) rfl
                      refine V_icmp_neN x 184 dX7_areAlike_177 rfl (fun t177 => ?_) (fun f177 => ?_)
                      · skip
                        refine V_iconst (v := nI 0) x dX7_areAlike_184 (by decide +kernel) ?_
                        refine V.ci (x' := bI (decide (le (7 * (lo p + k) + dp p + j) = le (7 * (lo q + k) + dp q + j)))) (by first | (rw [decide_eq_true (by omega)]; rfl) | (rw [decide_eq_false (by omega)]; rfl)) ?_
                        exact J185
                      · skip
                        refine V_iconst (v := nI 1) x dX7_areAlike_180 (by decide +kernel) ?_
                        refine V_goto x 185 dX7_areAlike_181 rfl ?_
                        refine V.ci (x' := bI (decide (le (7 * (lo p + k) + dp p + j) = le (7 * (lo q + k) + dp q + j)))) (by first | (rw [decide_eq_true (by omega)]; rfl) | (rw [decide_eq_false (by omega)]; rfl)) ?_
                        exact J185
              refine V.sub [5, 6, 7, 1, 8, 4, 3, 2, 0] (lv' := [(0, .ref hM), (1, .int (nI p)), (2, .int (nI q)), (3, .int (bI ((decide (sz (lo p + k) - dp p = sz (lo q + k) - dp q))))), (4, .int (nI k)), (5, .int (nI (lo p + k))), (6, .int (nI (lo q + k))), (7, .int (nI (sz (lo p + k) - dp p))), (8, .int (nI 0))]) rfl ?_
              exact L126 _ 0 (decide (sz (lo p + k) - dp p = sz (lo q + k) - dp q)) (by omega) rfl rfl
            refine V_icmp_neN x 121 dX7_areAlike_114 rfl (fun t114 => ?_) (fun f114 => ?_)
            · skip
              refine V_iconst (v := nI 0) x dX7_areAlike_121 (by decide +kernel) ?_
              refine V.ci (x' := bI (decide (sz (lo p + k) - dp p = sz (lo q + k) - dp q))) (by first | (rw [decide_eq_true (by omega)]; rfl) | (rw [decide_eq_false (by omega)]; rfl)) ?_
              exact J122
            · skip
              refine V_iconst (v := nI 1) x dX7_areAlike_117 (by decide +kernel) ?_
              refine V_goto x 122 dX7_areAlike_118 rfl ?_
              refine V.ci (x' := bI (decide (sz (lo p + k) - dp p = sz (lo q + k) - dp q))) (by first | (rw [decide_eq_true (by omega)]; rfl) | (rw [decide_eq_false (by omega)]; rfl)) ?_
              exact J122
    refine V.sub [2, 3, 4, 1, 0] (lv' := [(0, .ref hM), (1, .int (nI p)), (2, .int (nI q)), (3, .int (bI ((decide (hi p - lo p = hi q - lo q))))), (4, .int (nI 0))]) rfl ?_
    exact L38 _ 0 (decide (hi p - lo p = hi q - lo q)) (by omega) rfl rfl
  refine V_icmp_neN x 33 dX7_areAlike_26 rfl (fun t26 => ?_) (fun f26 => ?_)
  · skip
    refine V_iconst (v := nI 0) x dX7_areAlike_33 (by decide +kernel) ?_
    refine V.ci (x' := bI (decide (hi p - lo p = hi q - lo q))) (by first | (rw [decide_eq_true (by omega)]; rfl) | (rw [decide_eq_false (by omega)]; rfl)) ?_
    exact J34
  · skip
    refine V_iconst (v := nI 1) x dX7_areAlike_29 (by decide +kernel) ?_
    refine V_goto x 34 dX7_areAlike_30 rfl ?_
    refine V.ci (x' := bI (decide (hi p - lo p = hi q - lo q))) (by first | (rw [decide_eq_true (by omega)]; rfl) | (rw [decide_eq_false (by omega)]; rfl)) ?_
    exact J34
set_option maxHeartbeats 4000000 in
set_option maxRecDepth 100000 in
theorem m_isFirst (l : Launch) (D : va_G) (cI cZ cC cJ : ClassId) (hM mTx mPg mLe mSz mLo mHi mDp mFu mFv mRw mBl mWy mFe : Nat) (ft : Nat) (ty : Nat) (wr : Nat) (cn : Nat) (pf : Nat) (mn : Nat) (le : Nat → Nat) (sz : Nat → Nat) (lo : Nat → Nat) (hi : Nat → Nat) (dp : Nat → Nat) (p : Nat) (hp : p < 220) (hv : ∀ i, i ≤ p → vpr sz lo hi dp i) (hle : ∀ i, le i ≤ 8) (hsz : ∀ i, sz i ≤ 7) : CI l yX7_isFirst wsX7_isFirst { frames := 1, cells := 0, slots := 0, locals := 28 } D vwCl (tys4 cI cZ cC cJ) [.ref hM, .int (nI p)] [(hM, .inr (7, [.int (nI ft), .int (nI ty), .ref mTx, .int (nI wr), .ref mPg, .int (nI cn), .ref mLe, .ref mSz, .int (nI pf), .ref mLo, .ref mHi, .ref mDp, .int (nI mn), .ref mFu, .ref mFv, .ref mRw, .ref mBl, .ref mWy, .ref mFe])), (mLe, .inl (cI, 217, .inl (fun i => nI (le i)))), (mSz, .inl (cI, 31, .inl (fun i => nI (sz i)))), (mLo, .inl (cI, 220, .inl (fun i => nI (lo i)))), (mHi, .inl (cI, 220, .inl (fun i => nI (hi i)))), (mDp, .inl (cI, 220, .inl (fun i => nI (dp i))))] ((bI (mif le sz lo hi dp p p))) [(hM, .inr (7, [.int (nI ft), .int (nI ty), .ref mTx, .int (nI wr), .ref mPg, .int (nI cn), .ref mLe, .ref mSz, .int (nI pf), .ref mLo, .ref mHi, .ref mDp, .int (nI mn), .ref mFu, .ref mFv, .ref mRw, .ref mBl, .ref mWy, .ref mFe])), (mLe, .inl (cI, 217, .inl (fun i => nI (le i)))), (mSz, .inl (cI, 31, .inl (fun i => nI (sz i)))), (mLo, .inl (cI, 220, .inl (fun i => nI (lo i)))), (mHi, .inl (cI, 220, .inl (fun i => nI (hi i)))), (mDp, .inl (cI, 220, .inl (fun i => nI (dp i))))] := by
  refine CI.ofV (nar_bI2 _) (by decide +kernel) rfl (Nat.le_of_ble_eq_true rfl) ?_
  intro κ x hret
  refine V_iconst (v := nI 1) x dX7_isFirst_0 (by decide +kernel) ?_
  refine V_istore_n x 2 [(2, .int (nI 1)), (0, .ref hM), (1, .int (nI p))] dX7_isFirst_1 rfl (by decide) rfl ?_
  refine V_iconst (v := nI 0) x dX7_isFirst_2 (by decide +kernel) ?_
  refine V_istore_n x 3 [(3, .int (nI 0)), (2, .int (nI 1)), (0, .ref hM), (1, .int (nI p))] dX7_isFirst_3 rfl (by decide) rfl ?_
  have L4 : ∀ (k4 : Nat) (k : Nat) (b1 : Bool) (hk : k ≤ p) (e1 : mif le sz lo hi dp p k = b1) (hk4 : p - k = k4), V κ 0 0 [(hM, .inr (7, [.int (nI ft), .int (nI ty), .ref mTx, .int (nI wr), .ref mPg, .int (nI cn), .ref mLe, .ref mSz, .int (nI pf), .ref mLo, .ref mHi, .ref mDp, .int (nI mn), .ref mFu, .ref mFv, .ref mRw, .ref mBl, .ref mWy, .ref mFe])), (mLe, .inl (cI, 217, .inl (fun i => nI (le i)))), (mSz, .inl (cI, 31, .inl (fun i => nI (sz i)))), (mLo, .inl (cI, 220, .inl (fun i => nI (lo i)))), (mHi, .inl (cI, 220, .inl (fun i => nI (hi i)))), (mDp, .inl (cI, 220, .inl (fun i => nI (dp i))))] 4 [(0, .ref hM), (1, .int (nI p)), (2, .int (bI b1)), (3, .int (nI k))] [] := by
    intro k4
    induction k4 using Nat.strongRecOn with
    | ind k4 ih4 =>
      intro k b1 hk e1 hk4
      refine V_iload_n x 3 dX7_isFirst_4 rfl rfl ?_
      refine V_iload_n x 1 dX7_isFirst_5 rfl rfl ?_
      refine V_icmp_geN x 34 dX7_isFirst_6 rfl (fun t6 => ?_) (fun f6 => ?_)
      · skip
        refine V_iload_n x 2 dX7_isFirst_34 rfl rfl ?_
        refine V.ci (x' := bI (mif le sz lo hi dp p p)) (by first | (rw [← e1, show k = p by omega]; done) | (rw [mif_false (e1.trans t10) (show k ≤ p by omega), t10])) ?_
        exact hret _ _ dX7_isFirst_35
      · skip
        refine V_iload_n x 2 dX7_isFirst_9 rfl rfl ?_
        refine V_if_eqB x 34 dX7_isFirst_10 rfl (fun t10 => ?_) (fun f10 => ?_)
        · skip
          refine V_iload_n x 2 dX7_isFirst_34 rfl rfl ?_
          refine V.ci (x' := bI (mif le sz lo hi dp p p)) (by first | (rw [← e1, show k = p by omega]; done) | (rw [mif_false (e1.trans t10) (show k ≤ p by omega), t10])) ?_
          exact hret _ _ dX7_isFirst_35
        · skip
          refine V_aload_n x 0 dX7_isFirst_13 rfl rfl ?_
          refine V_iload_n x 1 dX7_isFirst_14 rfl rfl ?_
          refine V_iload_n x 3 dX7_isFirst_15 rfl rfl ?_
          refine V_callVi x (m_areAlike l D cI cZ cC cJ hM mTx mPg mLe mSz mLo mHi mDp mFu mFv mRw mBl mWy mFe ft ty wr cn pf mn le sz lo hi dp p k (by first | omega | assumption) (by first | omega | assumption) (hv p (by omega)) (hv k (by omega)) (by first | omega | assumption) (by first | omega | assumption)) 2 (gdV mlX7_107 imX7_areAlike seX7_areAlike inX7 coX7_areAlike) rfl hdX7_areAlike ⟨Nat.le_of_ble_eq_true rfl, Nat.le_of_ble_eq_true rfl⟩ ⟨rfl, rfl⟩ 0 rfl rfl rfl [0, 1, 2, 3, 4, 5] [(hM, .inr (7, [.int (nI ft), .int (nI ty), .ref mTx, .int (nI wr), .ref mPg, .int (nI cn), .ref mLe, .ref mSz, .int (nI pf), .ref mLo, .ref mHi, .ref mDp, .int (nI mn), .ref mFu, .ref mFv, .ref mRw, .ref mBl, .ref mWy, .ref mFe])), (mLe, .inl (cI, 217, .inl (fun i => nI (le i)))), (mSz, .inl (cI, 31, .inl (fun i => nI (sz i)))), (mLo, .inl (cI, 220, .inl (fun i => nI (lo i)))), (mHi, .inl (cI, 220, .inl (fun i => nI (hi i)))), (mDp, .inl (cI, 220, .inl (fun i => nI (dp i))))] rfl rfl [hM, mLe, mSz, mLo, mHi, mDp] rfl rfl [some 0, some 1, some 2, some 3, some 4, some 5] rfl rfl (rest := []) rfl (Nat.le_of_ble_eq_true rfl) dX7_isFirst_16 ⟨Nat.zero_le _, Nat.zero_le _⟩ ?_
          have J27 : V κ 0 0 [(hM, .inr (7, [.int (nI ft), .int (nI ty), .ref mTx, .int (nI wr), .ref mPg, .int (nI cn), .ref mLe, .ref mSz, .int (nI pf), .ref mLo, .ref mHi, .ref mDp, .int (nI mn), .ref mFu, .ref mFv, .ref mRw, .ref mBl, .ref mWy, .ref mFe])), (mLe, .inl (cI, 217, .inl (fun i => nI (le i)))), (mSz, .inl (cI, 31, .inl (fun i => nI (sz i)))), (mLo, .inl (cI, 220, .inl (fun i => nI (lo i)))), (mHi, .inl (cI, 220, .inl (fun i => nI (hi i)))), (mDp, .inl (cI, 220, .inl (fun i => nI (dp i))))] 27 [(0, .ref hM), (1, .int (nI p)), (2, .int (bI b1)), (3, .int (nI k))] [.int (bI (!mal le sz lo hi dp p k))] := by
            refine V_istore_n x 2 [(2, .int (bI (!mal le sz lo hi dp p k))), (0, .ref hM), (1, .int (nI p)), (3, .int (nI k))] dX7_isFirst_27 rfl (by decide) rfl ?_
            refine V_iinc x 3 3 [(3, .int (nI (k + 1))), (2, .int (bI (!mal le sz lo hi dp p k))), (0, .ref hM), (1, .int (nI p))] dX7_isFirst_28 rfl (iinc_1 _) (by decide) rfl ?_
            refine V_goto x 4 dX7_isFirst_31 rfl ?_
            refine V.sub [2, 3, 1, 0] (lv' := [(0, .ref hM), (1, .int (nI p)), (2, .int (bI ((!mal le sz lo hi dp p k)))), (3, .int (nI ((k + 1))))]) rfl ?_
            exact ih4 (p - (k + 1)) (by omega) (k + 1) (!mal le sz lo hi dp p k) (by omega) (by rw [mif, e1, f10]; rfl) rfl
          refine V_if_neB x 26 dX7_isFirst_19 rfl (fun t19 => ?_) (fun f19 => ?_)
          · skip
            refine V_iconst (v := nI 0) x dX7_isFirst_26 (by decide +kernel) ?_
            refine V.ci (x' := bI (!mal le sz lo hi dp p k)) (by first | (rw [t19]; decide) | (rw [f19]; decide)) ?_
            exact J27
          · skip
            refine V_iconst (v := nI 1) x dX7_isFirst_22 (by decide +kernel) ?_
            refine V_goto x 27 dX7_isFirst_23 rfl ?_
            refine V.ci (x' := bI (!mal le sz lo hi dp p k)) (by first | (rw [t19]; decide) | (rw [f19]; decide)) ?_
            exact J27
  refine V.sub [2, 3, 1, 0] (lv' := [(0, .ref hM), (1, .int (nI p)), (2, .int (bI true)), (3, .int (nI 0))]) rfl ?_
  exact L4 _ 0 true (by omega) rfl rfl
set_option maxHeartbeats 4000000 in
set_option maxRecDepth 100000 in
theorem m_states (l : Launch) (D : va_G) (cI cZ cC cJ : ClassId) (hM mTx mPg mLe mSz mLo mHi mDp mFu mFv mRw mBl mWy mFe : Nat) (ft : Nat) (ty : Nat) (wr : Nat) (cn : Nat) (pf : Nat) (mn : Nat) (le : Nat → Nat) (sz : Nat → Nat) (lo : Nat → Nat) (hi : Nat → Nat) (dp : Nat → Nat) (hcn : cn ≤ 30) (hle : ∀ i, le i ≤ 8) (hsz : ∀ i, sz i ≤ 7) (hv : ∀ i, i < (mfO le sz cn lo hi dp cn).1 → vpr sz (mfO le sz cn lo hi dp cn).2.1 (mfO le sz cn lo hi dp cn).2.2.1 (mfO le sz cn lo hi dp cn).2.2.2 i) (h211 : (mfO le sz cn lo hi dp cn).1 ≤ 211) : CI l yX7_states wsX7_states { frames := 2, cells := 0, slots := 0, locals := 51 } D vwCl (tys4 cI cZ cC cJ) [.ref hM] [(hM, .inr (7, [.int (nI ft), .int (nI ty), .ref mTx, .int (nI wr), .ref mPg, .int (nI cn), .ref mLe, .ref mSz, .int (nI pf), .ref mLo, .ref mHi, .ref mDp, .int (nI mn), .ref mFu, .ref mFv, .ref mRw, .ref mBl, .ref mWy, .ref mFe])), (mLe, .inl (cI, 217, .inl (fun i => nI (le i)))), (mSz, .inl (cI, 31, .inl (fun i => nI (sz i)))), (mLo, .inl (cI, 220, .inl (fun i => nI (lo i)))), (mHi, .inl (cI, 220, .inl (fun i => nI (hi i)))), (mDp, .inl (cI, 220, .inl (fun i => nI (dp i))))] ((nI (mss le sz (mfO le sz cn lo hi dp cn).2.1 (mfO le sz cn lo hi dp cn).2.2.1 (mfO le sz cn lo hi dp cn).2.2.2 (mfO le sz cn lo hi dp cn).1))) [(hM, .inr (7, [.int (nI 0), .int (nI ty), .ref mTx, .int (nI wr), .ref mPg, .int (nI cn), .ref mLe, .ref mSz, .int (nI ((mfO le sz cn lo hi dp cn).1)), .ref mLo, .ref mHi, .ref mDp, .int (nI mn), .ref mFu, .ref mFv, .ref mRw, .ref mBl, .ref mWy, .ref mFe])), (mLe, .inl (cI, 217, .inl (fun i => nI (le i)))), (mSz, .inl (cI, 31, .inl (fun i => nI (sz i)))), (mLo, .inl (cI, 220, .inl (fun i => nI (((mfO le sz cn lo hi dp cn).2.1) i)))), (mHi, .inl (cI, 220, .inl (fun i => nI (((mfO le sz cn lo hi dp cn).2.2.1) i)))), (mDp, .inl (cI, 220, .inl (fun i => nI (((mfO le sz cn lo hi dp cn).2.2.2) i))))] := by
  refine CI.ofV rfl (by decide +kernel) rfl (Nat.le_of_ble_eq_true rfl) ?_
  intro κ x hret
  refine V_aload_n x 0 dX7_states_0 rfl rfl ?_
  refine V_iconst (v := nI 0) x dX7_states_1 (by decide +kernel) ?_
  refine V_put (ty := .int) x 0 7 0 [(hM, .inr (7, [.int (nI 0), .int (nI ty), .ref mTx, .int (nI wr), .ref mPg, .int (nI cn), .ref mLe, .ref mSz, .int (nI pf), .ref mLo, .ref mHi, .ref mDp, .int (nI mn), .ref mFu, .ref mFv, .ref mRw, .ref mBl, .ref mWy, .ref mFe])), (mLe, .inl (cI, 217, .inl (fun i => nI (le i)))), (mSz, .inl (cI, 31, .inl (fun i => nI (sz i)))), (mLo, .inl (cI, 220, .inl (fun i => nI (lo i)))), (mHi, .inl (cI, 220, .inl (fun i => nI (hi i)))), (mDp, .inl (cI, 220, .inl (fun i => nI (dp i))))] hinX7 tyX7 tyX7_ok nmX7 rfl rfl (by decide) flX7_50 rfl (by decide +kernel) rfl rfl (Nat.le_of_ble_eq_true rfl) rfl dX7_states_2 ?_
  refine V_aload_n x 0 dX7_states_5 rfl rfl ?_
  refine V_callVv x (m_findPrefixes l D cI cZ cC cJ hM mTx mPg mLe mSz mLo mHi mDp mFu mFv mRw mBl mWy mFe 0 ty wr cn pf mn le sz lo hi dp (by first | omega | assumption) (by first | omega | assumption) (by first | omega | assumption)) 0 (gdV mlX7_110 imX7_findPrefixes seX7_findPrefixes inX7 coX7_findPrefixes) rfl hdX7_findPrefixes ⟨Nat.le_of_ble_eq_true rfl, Nat.le_of_ble_eq_true rfl⟩ ⟨rfl, rfl⟩ 0 rfl rfl rfl [0, 1, 2, 3, 4, 5] [(hM, .inr (7, [.int (nI 0), .int (nI ty), .ref mTx, .int (nI wr), .ref mPg, .int (nI cn), .ref mLe, .ref mSz, .int (nI ((mfO le sz cn lo hi dp cn).1)), .ref mLo, .ref mHi, .ref mDp, .int (nI mn), .ref mFu, .ref mFv, .ref mRw, .ref mBl, .ref mWy, .ref mFe])), (mLe, .inl (cI, 217, .inl (fun i => nI (le i)))), (mSz, .inl (cI, 31, .inl (fun i => nI (sz i)))), (mLo, .inl (cI, 220, .inl (fun i => nI (((mfO le sz cn lo hi dp cn).2.1) i)))), (mHi, .inl (cI, 220, .inl (fun i => nI (((mfO le sz cn lo hi dp cn).2.2.1) i)))), (mDp, .inl (cI, 220, .inl (fun i => nI (((mfO le sz cn lo hi dp cn).2.2.2) i))))] rfl rfl [hM, mLe, mSz, mLo, mHi, mDp] rfl rfl [some 0, some 1, some 2, some 3, some 4, some 5] rfl rfl (rest := []) rfl (Nat.le_of_ble_eq_true rfl) dX7_states_6 ⟨Nat.zero_le _, Nat.zero_le _⟩ ?_
  refine V_iconst (v := nI 0) x dX7_states_9 (by decide +kernel) ?_
  refine V_istore_n x 1 [(1, .int (nI 0)), (0, .ref hM)] dX7_states_10 rfl (by decide) rfl ?_
  refine V_iconst (v := nI 0) x dX7_states_11 (by decide +kernel) ?_
  refine V_istore_n x 2 [(2, .int (nI 0)), (1, .int (nI 0)), (0, .ref hM)] dX7_states_12 rfl (by decide) rfl ?_
  have L13 : ∀ (k13 : Nat) (k : Nat) (c : Nat) (hk : k ≤ (mfO le sz cn lo hi dp cn).1) (e1 : mss le sz (mfO le sz cn lo hi dp cn).2.1 (mfO le sz cn lo hi dp cn).2.2.1 (mfO le sz cn lo hi dp cn).2.2.2 k = c) (hk13 : (mfO le sz cn lo hi dp cn).1 - k = k13), V κ 0 0 [(hM, .inr (7, [.int (nI 0), .int (nI ty), .ref mTx, .int (nI wr), .ref mPg, .int (nI cn), .ref mLe, .ref mSz, .int (nI ((mfO le sz cn lo hi dp cn).1)), .ref mLo, .ref mHi, .ref mDp, .int (nI mn), .ref mFu, .ref mFv, .ref mRw, .ref mBl, .ref mWy, .ref mFe])), (mLe, .inl (cI, 217, .inl (fun i => nI (le i)))), (mSz, .inl (cI, 31, .inl (fun i => nI (sz i)))), (mLo, .inl (cI, 220, .inl (fun i => nI (((mfO le sz cn lo hi dp cn).2.1) i)))), (mHi, .inl (cI, 220, .inl (fun i => nI (((mfO le sz cn lo hi dp cn).2.2.1) i)))), (mDp, .inl (cI, 220, .inl (fun i => nI (((mfO le sz cn lo hi dp cn).2.2.2) i))))] 13 [(0, .ref hM), (1, .int (nI c)), (2, .int (nI k))] [] := by
    intro k13
    induction k13 using Nat.strongRecOn with
    | ind k13 ih13 =>
      intro k c hk e1 hk13
      refine V_iload_n x 2 dX7_states_13 rfl rfl ?_
      refine V_aload_n x 0 dX7_states_14 rfl rfl ?_
      refine V_get x 0 7 8 hinX7 rfl rfl (by decide) flX7_100 rfl dX7_states_15 ?_
      refine V_icmp_geN x 43 dX7_states_18 rfl (fun t18 => ?_) (fun f18 => ?_)
      · skip
        refine V_iload_n x 1 dX7_states_43 rfl rfl ?_
        refine V.ci (x' := nI (mss le sz (mfO le sz cn lo hi dp cn).2.1 (mfO le sz cn lo hi dp cn).2.2.1 (mfO le sz cn lo hi dp cn).2.2.2 (mfO le sz cn lo hi dp cn).1)) (by rw [← e1, show k = (mfO le sz cn lo hi dp cn).1 by omega]) ?_
        exact hret _ _ dX7_states_44
      · skip
        refine V_aload_n x 0 dX7_states_21 rfl rfl ?_
        refine V_iload_n x 2 dX7_states_22 rfl rfl ?_
        refine V_callVi x (m_isFirst l D cI cZ cC cJ hM mTx mPg mLe mSz mLo mHi mDp mFu mFv mRw mBl mWy mFe 0 ty wr cn ((mfO le sz cn lo hi dp cn).1) mn le sz ((mfO le sz cn lo hi dp cn).2.1) ((mfO le sz cn lo hi dp cn).2.2.1) ((mfO le sz cn lo hi dp cn).2.2.2) k (by first | omega | assumption) (fun i hi => hv i (by omega)) (by first | omega | assumption) (by first | omega | assumption)) 1 (gdV mlX7_113 imX7_isFirst seX7_isFirst inX7 coX7_isFirst) rfl hdX7_isFirst ⟨Nat.le_of_ble_eq_true rfl, Nat.le_of_ble_eq_true rfl⟩ ⟨rfl, rfl⟩ 0 rfl rfl rfl [0, 1, 2, 3, 4, 5] [(hM, .inr (7, [.int (nI 0), .int (nI ty), .ref mTx, .int (nI wr), .ref mPg, .int (nI cn), .ref mLe, .ref mSz, .int (nI (((mfO le sz cn lo hi dp cn).1))), .ref mLo, .ref mHi, .ref mDp, .int (nI mn), .ref mFu, .ref mFv, .ref mRw, .ref mBl, .ref mWy, .ref mFe])), (mLe, .inl (cI, 217, .inl (fun i => nI (le i)))), (mSz, .inl (cI, 31, .inl (fun i => nI (sz i)))), (mLo, .inl (cI, 220, .inl (fun i => nI ((((mfO le sz cn lo hi dp cn).2.1)) i)))), (mHi, .inl (cI, 220, .inl (fun i => nI ((((mfO le sz cn lo hi dp cn).2.2.1)) i)))), (mDp, .inl (cI, 220, .inl (fun i => nI ((((mfO le sz cn lo hi dp cn).2.2.2)) i))))] rfl rfl [hM, mLe, mSz, mLo, mHi, mDp] rfl rfl [some 0, some 1, some 2, some 3, some 4, some 5] rfl rfl (rest := []) rfl (Nat.le_of_ble_eq_true rfl) dX7_states_23 ⟨Nat.zero_le _, Nat.zero_le _⟩ ?_
        refine V_if_eqB x 35 dX7_states_26 rfl (fun t26 => ?_) (fun f26 => ?_)
        · skip
          refine V_iload_n x 1 dX7_states_35 rfl rfl ?_
          refine V_istore_n x 1 [(1, .int (nI c)), (0, .ref hM), (2, .int (nI k))] dX7_states_36 rfl (by decide) rfl ?_
          refine V_iinc x 2 2 [(2, .int (nI (k + 1))), (1, .int (nI c)), (0, .ref hM)] dX7_states_37 rfl (iinc_1 _) (by decide) rfl ?_
          refine V_goto x 13 dX7_states_40 rfl ?_
          refine V.sub [2, 1, 0] (lv' := [(0, .ref hM), (1, .int (nI c)), (2, .int (nI ((k + 1))))]) rfl ?_
          exact ih13 ((mfO le sz cn lo hi dp cn).1 - (k + 1)) (by omega) (k + 1) c (by omega) (by rw [mss, e1]; first | (rw [if_pos f26]; done) | (rw [if_neg (by rw [t26]; decide)])) rfl
        · skip
          refine V_iload_n x 1 dX7_states_29 rfl rfl ?_
          refine V_iconst (v := nI 1) x dX7_states_30 (by decide +kernel) ?_
          refine V_iadd x (nI (c + 1)) dX7_states_31 (nI_add _ _) ?_
          refine V_goto x 36 dX7_states_32 rfl ?_
          refine V_istore_n x 1 [(1, .int (nI (c + 1))), (0, .ref hM), (2, .int (nI k))] dX7_states_36 rfl (by decide) rfl ?_
          refine V_iinc x 2 2 [(2, .int (nI (k + 1))), (1, .int (nI (c + 1))), (0, .ref hM)] dX7_states_37 rfl (iinc_1 _) (by decide) rfl ?_
          refine V_goto x 13 dX7_states_40 rfl ?_
          refine V.sub [2, 1, 0] (lv' := [(0, .ref hM), (1, .int (nI ((c + 1)))), (2, .int (nI ((k + 1))))]) rfl ?_
          exact ih13 ((mfO le sz cn lo hi dp cn).1 - (k + 1)) (by omega) (k + 1) (c + 1) (by omega) (by rw [mss, e1]; first | (rw [if_pos f26]; done) | (rw [if_neg (by rw [t26]; decide)])) rfl
  refine V.sub [2, 1, 0] (lv' := [(0, .ref hM), (1, .int (nI 0)), (2, .int (nI 0))]) rfl ?_
  exact L13 _ 0 0 (by omega) rfl rfl
set_option maxHeartbeats 4000000 in
set_option maxRecDepth 100000 in
theorem m_nexts (l : Launch) (D : va_G) (cI cZ cC cJ : ClassId) (hM mTx mPg mLe mSz mLo mHi mDp mFu mFv mRw mBl mWy mFe : Nat) (ft : Nat) (ty : Nat) (wr : Nat) (cn : Nat) (pf : Nat) (mn : Nat) (le : Nat → Nat) (sz : Nat → Nat) (lo : Nat → Nat) (hi : Nat → Nat) (dp : Nat → Nat) (p : Nat) (hp : p < 220) (vp : vpr sz lo hi dp p) (hle : ∀ i, le i ≤ 8) (hsz : ∀ i, sz i ≤ 7) : CI l yX7_nexts wsX7_nexts { frames := 0, cells := 0, slots := 0, locals := 0 } D vwCl (tys4 cI cZ cC cJ) [.ref hM, .int (nI p)] [(hM, .inr (7, [.int (nI ft), .int (nI ty), .ref mTx, .int (nI wr), .ref mPg, .int (nI cn), .ref mLe, .ref mSz, .int (nI pf), .ref mLo, .ref mHi, .ref mDp, .int (nI mn), .ref mFu, .ref mFv, .ref mRw, .ref mBl, .ref mWy, .ref mFe])), (mLe, .inl (cI, 217, .inl (fun i => nI (le i)))), (mSz, .inl (cI, 31, .inl (fun i => nI (sz i)))), (mLo, .inl (cI, 220, .inl (fun i => nI (lo i)))), (mHi, .inl (cI, 220, .inl (fun i => nI (hi i)))), (mDp, .inl (cI, 220, .inl (fun i => nI (dp i))))] ((nI ((mxs le sz (lo p) (dp p) (hi p - lo p)).1))) [(hM, .inr (7, [.int (nI ft), .int (nI ty), .ref mTx, .int (nI wr), .ref mPg, .int (nI cn), .ref mLe, .ref mSz, .int (nI pf), .ref mLo, .ref mHi, .ref mDp, .int (nI mn), .ref mFu, .ref mFv, .ref mRw, .ref mBl, .ref mWy, .ref mFe])), (mLe, .inl (cI, 217, .inl (fun i => nI (le i)))), (mSz, .inl (cI, 31, .inl (fun i => nI (sz i)))), (mLo, .inl (cI, 220, .inl (fun i => nI (lo i)))), (mHi, .inl (cI, 220, .inl (fun i => nI (hi i)))), (mDp, .inl (cI, 220, .inl (fun i => nI (dp i))))] := by
  refine CI.ofV rfl (by decide +kernel) rfl (Nat.le_of_ble_eq_true rfl) ?_
  intro κ x hret
  obtain ⟨vp1, vp2, vp3⟩ := vp
  refine V_iconst (v := nI 0) x dX7_nexts_0 (by decide +kernel) ?_
  refine V_istore_n x 2 [(2, .int (nI 0)), (0, .ref hM), (1, .int (nI p))] dX7_nexts_1 rfl (by decide) rfl ?_
  refine V_iconst (v := nI 0) x dX7_nexts_2 (by decide +kernel) ?_
  refine V_istore_n x 3 [(3, .int (nI 0)), (2, .int (nI 0)), (0, .ref hM), (1, .int (nI p))] dX7_nexts_3 rfl (by decide) rfl ?_
  refine V_aload_n x 0 dX7_nexts_4 rfl rfl ?_
  refine V_get x 0 7 9 hinX7 rfl rfl (by decide) flX7_22 rfl dX7_nexts_5 ?_
  refine V_iload_n x 1 dX7_nexts_8 rfl rfl ?_
  refine V_iald x 3 0 rfl rfl dX7_nexts_9 (by omega) (by omega) ?_
  refine V_istore x 4 [(4, .int (nI (lo p))), (3, .int (nI 0)), (2, .int (nI 0)), (0, .ref hM), (1, .int (nI p))] dX7_nexts_10 (by decide) rfl ?_
  have L12 : ∀ (k12 : Nat) (k : Nat) (c : Nat) (z : Nat) (hk : lo p + k ≤ hi p) (hz : z ≤ 8) (e1 : mxs le sz (lo p) (dp p) k = (c, z)) (hk12 : hi p - (lo p + k) = k12), V κ 0 0 [(hM, .inr (7, [.int (nI ft), .int (nI ty), .ref mTx, .int (nI wr), .ref mPg, .int (nI cn), .ref mLe, .ref mSz, .int (nI pf), .ref mLo, .ref mHi, .ref mDp, .int (nI mn), .ref mFu, .ref mFv, .ref mRw, .ref mBl, .ref mWy, .ref mFe])), (mLe, .inl (cI, 217, .inl (fun i => nI (le i)))), (mSz, .inl (cI, 31, .inl (fun i => nI (sz i)))), (mLo, .inl (cI, 220, .inl (fun i => nI (lo i)))), (mHi, .inl (cI, 220, .inl (fun i => nI (hi i)))), (mDp, .inl (cI, 220, .inl (fun i => nI (dp i))))] 12 [(0, .ref hM), (1, .int (nI p)), (2, .int (nI c)), (3, .int (nI z)), (4, .int (nI (lo p + k)))] [] := by
    intro k12
    induction k12 using Nat.strongRecOn with
    | ind k12 ih12 =>
      intro k c z hk hz e1 hk12
      refine V_iload x 4 dX7_nexts_12 rfl ?_
      refine V_aload_n x 0 dX7_nexts_14 rfl rfl ?_
      refine V_get x 0 7 10 hinX7 rfl rfl (by decide) flX7_25 rfl dX7_nexts_15 ?_
      refine V_iload_n x 1 dX7_nexts_18 rfl rfl ?_
      refine V_iald x 4 0 rfl rfl dX7_nexts_19 (by omega) (by omega) ?_
      refine V_icmp_geN x 99 dX7_nexts_20 rfl (fun t20 => ?_) (fun f20 => ?_)
      · skip
        refine V_iload_n x 2 dX7_nexts_99 rfl rfl ?_
        rw [show hi p - lo p = k by omega, e1] at hret
        exact hret _ _ dX7_nexts_100
      · skip
        have hsw := hsz (lo p + k)
        have hd := vp3 (lo p + k) (by omega) (by omega)
        have hlw := hle (7 * (lo p + k) + dp p)
        refine V_aload_n x 0 dX7_nexts_23 rfl rfl ?_
        refine V_get x 0 7 7 hinX7 rfl rfl (by decide) flX7_19 rfl dX7_nexts_24 ?_
        refine V_iload x 4 dX7_nexts_27 rfl ?_
        refine V_iald x 2 0 rfl rfl dX7_nexts_29 (by omega) (by omega) ?_
        refine V_aload_n x 0 dX7_nexts_30 rfl rfl ?_
        refine V_get x 0 7 11 hinX7 rfl rfl (by decide) flX7_28 rfl dX7_nexts_31 ?_
        refine V_iload_n x 1 dX7_nexts_34 rfl rfl ?_
        refine V_iald x 5 0 rfl rfl dX7_nexts_35 (by omega) (by omega) ?_
        have J60 : V κ 0 0 [(hM, .inr (7, [.int (nI ft), .int (nI ty), .ref mTx, .int (nI wr), .ref mPg, .int (nI cn), .ref mLe, .ref mSz, .int (nI pf), .ref mLo, .ref mHi, .ref mDp, .int (nI mn), .ref mFu, .ref mFv, .ref mRw, .ref mBl, .ref mWy, .ref mFe])), (mLe, .inl (cI, 217, .inl (fun i => nI (le i)))), (mSz, .inl (cI, 31, .inl (fun i => nI (sz i)))), (mLo, .inl (cI, 220, .inl (fun i => nI (lo i)))), (mHi, .inl (cI, 220, .inl (fun i => nI (hi i)))), (mDp, .inl (cI, 220, .inl (fun i => nI (dp i))))] 60 [(0, .ref hM), (1, .int (nI p)), (2, .int (nI c)), (3, .int (nI z)), (4, .int (nI (lo p + k)))] [.int (nI (mnx le sz (dp p) (lo p + k)))] := by
          refine V_istore x 5 [(5, .int (nI (mnx le sz (dp p) (lo p + k)))), (0, .ref hM), (1, .int (nI p)), (2, .int (nI c)), (3, .int (nI z)), (4, .int (nI (lo p + k)))] dX7_nexts_60 (by decide) rfl ?_
          obtain ⟨y, hy⟩ : ∃ y, mnx le sz (dp p) (lo p + k) = y := ⟨_, rfl⟩
          have hy8 : y ≤ 8 := by
            rw [← hy]
            unfold mnx
            split
            · exact hlw
            · omega
          simp only [hy]
          refine V_iload x 5 dX7_nexts_62 rfl ?_
          have J80 : V κ 0 0 [(hM, .inr (7, [.int (nI ft), .int (nI ty), .ref mTx, .int (nI wr), .ref mPg, .int (nI cn), .ref mLe, .ref mSz, .int (nI pf), .ref mLo, .ref mHi, .ref mDp, .int (nI mn), .ref mFu, .ref mFv, .ref mRw, .ref mBl, .ref mWy, .ref mFe])), (mLe, .inl (cI, 217, .inl (fun i => nI (le i)))), (mSz, .inl (cI, 31, .inl (fun i => nI (sz i)))), (mLo, .inl (cI, 220, .inl (fun i => nI (lo i)))), (mHi, .inl (cI, 220, .inl (fun i => nI (hi i)))), (mDp, .inl (cI, 220, .inl (fun i => nI (dp i))))] 80 [(5, .int (nI y)), (0, .ref hM), (1, .int (nI p)), (2, .int (nI c)), (3, .int (nI z)), (4, .int (nI (lo p + k)))] [.int (nI (if 0 < y ∧ y ≠ z then c + 1 else c))] := by
            refine V_istore_n x 2 [(2, .int (nI (if 0 < y ∧ y ≠ z then c + 1 else c))), (5, .int (nI y)), (0, .ref hM), (1, .int (nI p)), (3, .int (nI z)), (4, .int (nI (lo p + k)))] dX7_nexts_80 rfl (by decide) rfl ?_
            refine V_iload x 5 dX7_nexts_81 rfl ?_
            have J92 : V κ 0 0 [(hM, .inr (7, [.int (nI ft), .int (nI ty), .ref mTx, .int (nI wr), .ref mPg, .int (nI cn), .ref mLe, .ref mSz, .int (nI pf), .ref mLo, .ref mHi, .ref mDp, .int (nI mn), .ref mFu, .ref mFv, .ref mRw, .ref mBl, .ref mWy, .ref mFe])), (mLe, .inl (cI, 217, .inl (fun i => nI (le i)))), (mSz, .inl (cI, 31, .inl (fun i => nI (sz i)))), (mLo, .inl (cI, 220, .inl (fun i => nI (lo i)))), (mHi, .inl (cI, 220, .inl (fun i => nI (hi i)))), (mDp, .inl (cI, 220, .inl (fun i => nI (dp i))))] 92 [(2, .int (nI (if 0 < y ∧ y ≠ z then c + 1 else c))), (5, .int (nI y)), (0, .ref hM), (1, .int (nI p)), (3, .int (nI z)), (4, .int (nI (lo p + k)))] [.int (nI (if 0 < y then y else z))] := by
              refine V_istore_n x 3 [(3, .int (nI (if 0 < y then y else z))), (2, .int (nI (if 0 < y ∧ y ≠ z then c + 1 else c))), (5, .int (nI y)), (0, .ref hM), (1, .int (nI p)), (4, .int (nI (lo p + k)))] dX7_nexts_92 rfl (by decide) rfl ?_
              refine V_iinc x 4 5 [(4, .int (nI ((lo p + k) + 1))), (3, .int (nI (if 0 < y then y else z))), (2, .int (nI (if 0 < y ∧ y ≠ z then c + 1 else c))), (5, .int (nI y)), (0, .ref hM), (1, .int (nI p))] dX7_nexts_93 rfl (iinc_1 _) (by decide) rfl ?_
              refine V_goto x 12 dX7_nexts_96 rfl ?_
              refine V.sub [4, 5, 2, 1, 0] (lv' := [(0, .ref hM), (1, .int (nI p)), (2, .int (nI ((if 0 < y ∧ y ≠ z then c + 1 else c)))), (3, .int (nI ((if 0 < y then y else z)))), (4, .int (nI (lo p + (k + 1))))]) rfl ?_
              exact ih12 (hi p - (lo p + (k + 1))) (by omega) (k + 1) (if 0 < y ∧ y ≠ z then c + 1 else c) (if 0 < y then y else z) (by omega) (by split <;> omega) (by rw [mxs, e1, hy]; rfl) rfl
            refine V_if_leN x 91 dX7_nexts_83 rfl (fun t83 => ?_) (fun f83 => ?_)
            · skip
              refine V_iload_n x 3 dX7_nexts_91 rfl rfl ?_
              refine V.ci (x' := nI (if 0 < y then y else z)) (by first | (rw [if_pos (by omega)]; done) | (rw [if_neg (by omega)])) ?_
              exact J92
            · skip
              refine V_iload x 5 dX7_nexts_86 rfl ?_
              refine V_goto x 92 dX7_nexts_88 rfl ?_
              refine V.ci (x' := nI (if 0 < y then y else z)) (by first | (rw [if_pos (by omega)]; done) | (rw [if_neg (by omega)])) ?_
              exact J92
          refine V_if_leN x 79 dX7_nexts_64 rfl (fun t64 => ?_) (fun f64 => ?_)
          · skip
            refine V_iload_n x 2 dX7_nexts_79 rfl rfl ?_
            refine V.ci (x' := nI (if 0 < y ∧ y ≠ z then c + 1 else c)) (by first | (rw [if_pos ⟨by omega, by omega⟩]; done) | (rw [if_neg (by omega)])) ?_
            exact J80
          · skip
            refine V_iload x 5 dX7_nexts_67 rfl ?_
            refine V_iload_n x 3 dX7_nexts_69 rfl rfl ?_
            refine V_icmp_eqN x 79 dX7_nexts_70 rfl (fun t70 => ?_) (fun f70 => ?_)
            · skip
              refine V_iload_n x 2 dX7_nexts_79 rfl rfl ?_
              refine V.ci (x' := nI (if 0 < y ∧ y ≠ z then c + 1 else c)) (by first | (rw [if_pos ⟨by omega, by omega⟩]; done) | (rw [if_neg (by omega)])) ?_
              exact J80
            · skip
              refine V_iload_n x 2 dX7_nexts_73 rfl rfl ?_
              refine V_iconst (v := nI 1) x dX7_nexts_74 (by decide +kernel) ?_
              refine V_iadd x (nI (c + 1)) dX7_nexts_75 (nI_add _ _) ?_
              refine V_goto x 80 dX7_nexts_76 rfl ?_
              refine V.ci (x' := nI (if 0 < y ∧ y ≠ z then c + 1 else c)) (by first | (rw [if_pos ⟨by omega, by omega⟩]; done) | (rw [if_neg (by omega)])) ?_
              exact J80
        refine V_icmp_leN x 59 dX7_nexts_36 rfl (fun t36 => ?_) (fun f36 => ?_)
        · skip
          refine V_iconst (v := nI 0) x dX7_nexts_59 (by decide +kernel) ?_
          refine V.ci (x' := nI (mnx le sz (dp p) (lo p + k))) (by unfold mnx; first | (rw [if_pos (by omega)]; done) | (rw [if_neg (by omega)])) ?_
          exact J60
        · skip
          refine V_aload_n x 0 dX7_nexts_39 rfl rfl ?_
          refine V_get x 0 7 6 hinX7 rfl rfl (by decide) flX7_16 rfl dX7_nexts_40 ?_
          refine V_bipush (v := nI 7) x dX7_nexts_43 (by decide +kernel) ?_
          refine V_iload x 4 dX7_nexts_45 rfl ?_
          refine V_imul x (nI (7 * (lo p + k))) dX7_nexts_47 (pk_mul _ _) ?_
          refine V_aload_n x 0 dX7_nexts_48 rfl rfl ?_
          refine V_get x 0 7 11 hinX7 rfl rfl (by decide) flX7_28 rfl dX7_nexts_49 ?_
          refine V_iload_n x 1 dX7_nexts_52 rfl rfl ?_
          refine V_iald x 5 0 rfl rfl dX7_nexts_53 (by omega) (by omega) ?_
          refine V_iadd x (nI ((7 * (lo p + k)) + (dp p))) dX7_nexts_54 (nI_add _ _) ?_
          refine V_iald x 1 0 rfl rfl dX7_nexts_55 (by omega) (by omega) ?_
          refine V_goto x 60 dX7_nexts_56 rfl ?_
          refine V.ci (x' := nI (mnx le sz (dp p) (lo p + k))) (by unfold mnx; first | (rw [if_pos (by omega)]; done) | (rw [if_neg (by omega)])) ?_
          exact J60
  refine V.sub [3, 4, 2, 1, 0] (lv' := [(0, .ref hM), (1, .int (nI p)), (2, .int (nI 0)), (3, .int (nI 0)), (4, .int (nI (lo p + 0)))]) rfl ?_
  exact L12 _ 0 0 0 (by omega) (by omega) rfl rfl
set_option maxHeartbeats 4000000 in
set_option maxRecDepth 100000 in
theorem m_edges (l : Launch) (D : va_G) (cI cZ cC cJ : ClassId) (hM mTx mPg mLe mSz mLo mHi mDp mFu mFv mRw mBl mWy mFe : Nat) (ft : Nat) (ty : Nat) (wr : Nat) (cn : Nat) (pf : Nat) (mn : Nat) (le : Nat → Nat) (sz : Nat → Nat) (lo : Nat → Nat) (hi : Nat → Nat) (dp : Nat → Nat) (hcn : cn ≤ 30) (hle : ∀ i, le i ≤ 8) (hsz : ∀ i, sz i ≤ 7) (hv : ∀ i, i < (mfO le sz cn lo hi dp cn).1 → vpr sz (mfO le sz cn lo hi dp cn).2.1 (mfO le sz cn lo hi dp cn).2.2.1 (mfO le sz cn lo hi dp cn).2.2.2 i) (h211 : (mfO le sz cn lo hi dp cn).1 ≤ 211) : CI l yX7_edges wsX7_edges { frames := 2, cells := 0, slots := 0, locals := 51 } D vwCl (tys4 cI cZ cC cJ) [.ref hM] [(hM, .inr (7, [.int (nI ft), .int (nI ty), .ref mTx, .int (nI wr), .ref mPg, .int (nI cn), .ref mLe, .ref mSz, .int (nI pf), .ref mLo, .ref mHi, .ref mDp, .int (nI mn), .ref mFu, .ref mFv, .ref mRw, .ref mBl, .ref mWy, .ref mFe])), (mLe, .inl (cI, 217, .inl (fun i => nI (le i)))), (mSz, .inl (cI, 31, .inl (fun i => nI (sz i)))), (mLo, .inl (cI, 220, .inl (fun i => nI (lo i)))), (mHi, .inl (cI, 220, .inl (fun i => nI (hi i)))), (mDp, .inl (cI, 220, .inl (fun i => nI (dp i))))] ((nI (mes le sz (mfO le sz cn lo hi dp cn).2.1 (mfO le sz cn lo hi dp cn).2.2.1 (mfO le sz cn lo hi dp cn).2.2.2 (mfO le sz cn lo hi dp cn).1))) [(hM, .inr (7, [.int (nI 0), .int (nI ty), .ref mTx, .int (nI wr), .ref mPg, .int (nI cn), .ref mLe, .ref mSz, .int (nI ((mfO le sz cn lo hi dp cn).1)), .ref mLo, .ref mHi, .ref mDp, .int (nI mn), .ref mFu, .ref mFv, .ref mRw, .ref mBl, .ref mWy, .ref mFe])), (mLe, .inl (cI, 217, .inl (fun i => nI (le i)))), (mSz, .inl (cI, 31, .inl (fun i => nI (sz i)))), (mLo, .inl (cI, 220, .inl (fun i => nI (((mfO le sz cn lo hi dp cn).2.1) i)))), (mHi, .inl (cI, 220, .inl (fun i => nI (((mfO le sz cn lo hi dp cn).2.2.1) i)))), (mDp, .inl (cI, 220, .inl (fun i => nI (((mfO le sz cn lo hi dp cn).2.2.2) i))))] := by
  refine CI.ofV rfl (by decide +kernel) rfl (Nat.le_of_ble_eq_true rfl) ?_
  intro κ x hret
  refine V_aload_n x 0 dX7_edges_0 rfl rfl ?_
  refine V_iconst (v := nI 0) x dX7_edges_1 (by decide +kernel) ?_
  refine V_put (ty := .int) x 0 7 0 [(hM, .inr (7, [.int (nI 0), .int (nI ty), .ref mTx, .int (nI wr), .ref mPg, .int (nI cn), .ref mLe, .ref mSz, .int (nI pf), .ref mLo, .ref mHi, .ref mDp, .int (nI mn), .ref mFu, .ref mFv, .ref mRw, .ref mBl, .ref mWy, .ref mFe])), (mLe, .inl (cI, 217, .inl (fun i => nI (le i)))), (mSz, .inl (cI, 31, .inl (fun i => nI (sz i)))), (mLo, .inl (cI, 220, .inl (fun i => nI (lo i)))), (mHi, .inl (cI, 220, .inl (fun i => nI (hi i)))), (mDp, .inl (cI, 220, .inl (fun i => nI (dp i))))] hinX7 tyX7 tyX7_ok nmX7 rfl rfl (by decide) flX7_50 rfl (by decide +kernel) rfl rfl (Nat.le_of_ble_eq_true rfl) rfl dX7_edges_2 ?_
  refine V_aload_n x 0 dX7_edges_5 rfl rfl ?_
  refine V_callVv x (m_findPrefixes l D cI cZ cC cJ hM mTx mPg mLe mSz mLo mHi mDp mFu mFv mRw mBl mWy mFe 0 ty wr cn pf mn le sz lo hi dp (by first | omega | assumption) (by first | omega | assumption) (by first | omega | assumption)) 0 (gdV mlX7_110 imX7_findPrefixes seX7_findPrefixes inX7 coX7_findPrefixes) rfl hdX7_findPrefixes ⟨Nat.le_of_ble_eq_true rfl, Nat.le_of_ble_eq_true rfl⟩ ⟨rfl, rfl⟩ 0 rfl rfl rfl [0, 1, 2, 3, 4, 5] [(hM, .inr (7, [.int (nI 0), .int (nI ty), .ref mTx, .int (nI wr), .ref mPg, .int (nI cn), .ref mLe, .ref mSz, .int (nI ((mfO le sz cn lo hi dp cn).1)), .ref mLo, .ref mHi, .ref mDp, .int (nI mn), .ref mFu, .ref mFv, .ref mRw, .ref mBl, .ref mWy, .ref mFe])), (mLe, .inl (cI, 217, .inl (fun i => nI (le i)))), (mSz, .inl (cI, 31, .inl (fun i => nI (sz i)))), (mLo, .inl (cI, 220, .inl (fun i => nI (((mfO le sz cn lo hi dp cn).2.1) i)))), (mHi, .inl (cI, 220, .inl (fun i => nI (((mfO le sz cn lo hi dp cn).2.2.1) i)))), (mDp, .inl (cI, 220, .inl (fun i => nI (((mfO le sz cn lo hi dp cn).2.2.2) i))))] rfl rfl [hM, mLe, mSz, mLo, mHi, mDp] rfl rfl [some 0, some 1, some 2, some 3, some 4, some 5] rfl rfl (rest := []) rfl (Nat.le_of_ble_eq_true rfl) dX7_edges_6 ⟨Nat.zero_le _, Nat.zero_le _⟩ ?_
  refine V_iconst (v := nI 0) x dX7_edges_9 (by decide +kernel) ?_
  refine V_istore_n x 1 [(1, .int (nI 0)), (0, .ref hM)] dX7_edges_10 rfl (by decide) rfl ?_
  refine V_iconst (v := nI 0) x dX7_edges_11 (by decide +kernel) ?_
  refine V_istore_n x 2 [(2, .int (nI 0)), (1, .int (nI 0)), (0, .ref hM)] dX7_edges_12 rfl (by decide) rfl ?_
  have L13 : ∀ (k13 : Nat) (k : Nat) (c : Nat) (hk : k ≤ (mfO le sz cn lo hi dp cn).1) (e1 : mes le sz (mfO le sz cn lo hi dp cn).2.1 (mfO le sz cn lo hi dp cn).2.2.1 (mfO le sz cn lo hi dp cn).2.2.2 k = c) (hk13 : (mfO le sz cn lo hi dp cn).1 - k = k13), V κ 0 0 [(hM, .inr (7, [.int (nI 0), .int (nI ty), .ref mTx, .int (nI wr), .ref mPg, .int (nI cn), .ref mLe, .ref mSz, .int (nI ((mfO le sz cn lo hi dp cn).1)), .ref mLo, .ref mHi, .ref mDp, .int (nI mn), .ref mFu, .ref mFv, .ref mRw, .ref mBl, .ref mWy, .ref mFe])), (mLe, .inl (cI, 217, .inl (fun i => nI (le i)))), (mSz, .inl (cI, 31, .inl (fun i => nI (sz i)))), (mLo, .inl (cI, 220, .inl (fun i => nI (((mfO le sz cn lo hi dp cn).2.1) i)))), (mHi, .inl (cI, 220, .inl (fun i => nI (((mfO le sz cn lo hi dp cn).2.2.1) i)))), (mDp, .inl (cI, 220, .inl (fun i => nI (((mfO le sz cn lo hi dp cn).2.2.2) i))))] 13 [(0, .ref hM), (1, .int (nI c)), (2, .int (nI k))] [] := by
    intro k13
    induction k13 using Nat.strongRecOn with
    | ind k13 ih13 =>
      intro k c hk e1 hk13
      refine V_iload_n x 2 dX7_edges_13 rfl rfl ?_
      refine V_aload_n x 0 dX7_edges_14 rfl rfl ?_
      refine V_get x 0 7 8 hinX7 rfl rfl (by decide) flX7_100 rfl dX7_edges_15 ?_
      refine V_icmp_geN x 47 dX7_edges_18 rfl (fun t18 => ?_) (fun f18 => ?_)
      · skip
        refine V_iload_n x 1 dX7_edges_47 rfl rfl ?_
        refine V.ci (x' := nI (mes le sz (mfO le sz cn lo hi dp cn).2.1 (mfO le sz cn lo hi dp cn).2.2.1 (mfO le sz cn lo hi dp cn).2.2.2 (mfO le sz cn lo hi dp cn).1)) (by rw [← e1, show k = (mfO le sz cn lo hi dp cn).1 by omega]) ?_
        exact hret _ _ dX7_edges_48
      · skip
        refine V_aload_n x 0 dX7_edges_21 rfl rfl ?_
        refine V_iload_n x 2 dX7_edges_22 rfl rfl ?_
        refine V_callVi x (m_isFirst l D cI cZ cC cJ hM mTx mPg mLe mSz mLo mHi mDp mFu mFv mRw mBl mWy mFe 0 ty wr cn ((mfO le sz cn lo hi dp cn).1) mn le sz ((mfO le sz cn lo hi dp cn).2.1) ((mfO le sz cn lo hi dp cn).2.2.1) ((mfO le sz cn lo hi dp cn).2.2.2) k (by first | omega | assumption) (fun i hi => hv i (by omega)) (by first | omega | assumption) (by first | omega | assumption)) 1 (gdV mlX7_113 imX7_isFirst seX7_isFirst inX7 coX7_isFirst) rfl hdX7_isFirst ⟨Nat.le_of_ble_eq_true rfl, Nat.le_of_ble_eq_true rfl⟩ ⟨rfl, rfl⟩ 0 rfl rfl rfl [0, 1, 2, 3, 4, 5] [(hM, .inr (7, [.int (nI 0), .int (nI ty), .ref mTx, .int (nI wr), .ref mPg, .int (nI cn), .ref mLe, .ref mSz, .int (nI (((mfO le sz cn lo hi dp cn).1))), .ref mLo, .ref mHi, .ref mDp, .int (nI mn), .ref mFu, .ref mFv, .ref mRw, .ref mBl, .ref mWy, .ref mFe])), (mLe, .inl (cI, 217, .inl (fun i => nI (le i)))), (mSz, .inl (cI, 31, .inl (fun i => nI (sz i)))), (mLo, .inl (cI, 220, .inl (fun i => nI ((((mfO le sz cn lo hi dp cn).2.1)) i)))), (mHi, .inl (cI, 220, .inl (fun i => nI ((((mfO le sz cn lo hi dp cn).2.2.1)) i)))), (mDp, .inl (cI, 220, .inl (fun i => nI ((((mfO le sz cn lo hi dp cn).2.2.2)) i))))] rfl rfl [hM, mLe, mSz, mLo, mHi, mDp] rfl rfl [some 0, some 1, some 2, some 3, some 4, some 5] rfl rfl (rest := []) rfl (Nat.le_of_ble_eq_true rfl) dX7_edges_23 ⟨Nat.zero_le _, Nat.zero_le _⟩ ?_
        refine V_if_eqB x 39 dX7_edges_26 rfl (fun t26 => ?_) (fun f26 => ?_)
        · skip
          refine V_iload_n x 1 dX7_edges_39 rfl rfl ?_
          refine V_istore_n x 1 [(1, .int (nI c)), (0, .ref hM), (2, .int (nI k))] dX7_edges_40 rfl (by decide) rfl ?_
          refine V_iinc x 2 2 [(2, .int (nI (k + 1))), (1, .int (nI c)), (0, .ref hM)] dX7_edges_41 rfl (iinc_1 _) (by decide) rfl ?_
          refine V_goto x 13 dX7_edges_44 rfl ?_
          refine V.sub [2, 1, 0] (lv' := [(0, .ref hM), (1, .int (nI c)), (2, .int (nI ((k + 1))))]) rfl ?_
          exact ih13 ((mfO le sz cn lo hi dp cn).1 - (k + 1)) (by omega) (k + 1) c (by omega) (by rw [mes, e1]; first | (rw [if_pos f26]; done) | (rw [if_neg (by rw [t26]; decide)])) rfl
        · skip
          refine V_iload_n x 1 dX7_edges_29 rfl rfl ?_
          refine V_aload_n x 0 dX7_edges_30 rfl rfl ?_
          refine V_iload_n x 2 dX7_edges_31 rfl rfl ?_
          refine V_callVi x (m_nexts l D cI cZ cC cJ hM mTx mPg mLe mSz mLo mHi mDp mFu mFv mRw mBl mWy mFe 0 ty wr cn (((mfO le sz cn lo hi dp cn).1)) mn le sz (((mfO le sz cn lo hi dp cn).2.1)) (((mfO le sz cn lo hi dp cn).2.2.1)) (((mfO le sz cn lo hi dp cn).2.2.2)) k (by first | omega | assumption) (hv k (by omega)) (by first | omega | assumption) (by first | omega | assumption)) 1 (gdV mlX7_117 imX7_nexts seX7_nexts inX7 coX7_nexts) rfl hdX7_nexts ⟨Nat.le_of_ble_eq_true rfl, Nat.le_of_ble_eq_true rfl⟩ ⟨rfl, rfl⟩ 0 rfl rfl rfl [0, 1, 2, 3, 4, 5] [(hM, .inr (7, [.int (nI 0), .int (nI ty), .ref mTx, .int (nI wr), .ref mPg, .int (nI cn), .ref mLe, .ref mSz, .int (nI ((((mfO le sz cn lo hi dp cn).1)))), .ref mLo, .ref mHi, .ref mDp, .int (nI mn), .ref mFu, .ref mFv, .ref mRw, .ref mBl, .ref mWy, .ref mFe])), (mLe, .inl (cI, 217, .inl (fun i => nI (le i)))), (mSz, .inl (cI, 31, .inl (fun i => nI (sz i)))), (mLo, .inl (cI, 220, .inl (fun i => nI (((((mfO le sz cn lo hi dp cn).2.1))) i)))), (mHi, .inl (cI, 220, .inl (fun i => nI (((((mfO le sz cn lo hi dp cn).2.2.1))) i)))), (mDp, .inl (cI, 220, .inl (fun i => nI (((((mfO le sz cn lo hi dp cn).2.2.2))) i))))] rfl rfl [hM, mLe, mSz, mLo, mHi, mDp] rfl rfl [some 0, some 1, some 2, some 3, some 4, some 5] rfl rfl (rest := [.int (nI c)]) rfl (Nat.le_of_ble_eq_true rfl) dX7_edges_32 ⟨Nat.zero_le _, Nat.zero_le _⟩ ?_
          refine V_iadd x (nI (c + ((mxs le sz ((((mfO le sz cn lo hi dp cn).2.1)) k) ((((mfO le sz cn lo hi dp cn).2.2.2)) k) ((((mfO le sz cn lo hi dp cn).2.2.1)) k - (((mfO le sz cn lo hi dp cn).2.1)) k)).1))) dX7_edges_35 (nI_add _ _) ?_
          refine V_goto x 40 dX7_edges_36 rfl ?_
          refine V_istore_n x 1 [(1, .int (nI (c + ((mxs le sz ((((mfO le sz cn lo hi dp cn).2.1)) k) ((((mfO le sz cn lo hi dp cn).2.2.2)) k) ((((mfO le sz cn lo hi dp cn).2.2.1)) k - (((mfO le sz cn lo hi dp cn).2.1)) k)).1)))), (0, .ref hM), (2, .int (nI k))] dX7_edges_40 rfl (by decide) rfl ?_
          refine V_iinc x 2 2 [(2, .int (nI (k + 1))), (1, .int (nI (c + ((mxs le sz ((((mfO le sz cn lo hi dp cn).2.1)) k) ((((mfO le sz cn lo hi dp cn).2.2.2)) k) ((((mfO le sz cn lo hi dp cn).2.2.1)) k - (((mfO le sz cn lo hi dp cn).2.1)) k)).1)))), (0, .ref hM)] dX7_edges_41 rfl (iinc_1 _) (by decide) rfl ?_
          refine V_goto x 13 dX7_edges_44 rfl ?_
          refine V.sub [2, 1, 0] (lv' := [(0, .ref hM), (1, .int (nI ((c + ((mxs le sz ((((mfO le sz cn lo hi dp cn).2.1)) k) ((((mfO le sz cn lo hi dp cn).2.2.2)) k) ((((mfO le sz cn lo hi dp cn).2.2.1)) k - (((mfO le sz cn lo hi dp cn).2.1)) k)).1))))), (2, .int (nI ((k + 1))))]) rfl ?_
          exact ih13 ((mfO le sz cn lo hi dp cn).1 - (k + 1)) (by omega) (k + 1) (c + ((mxs le sz ((((mfO le sz cn lo hi dp cn).2.1)) k) ((((mfO le sz cn lo hi dp cn).2.2.2)) k) ((((mfO le sz cn lo hi dp cn).2.2.1)) k - (((mfO le sz cn lo hi dp cn).2.1)) k)).1)) (by omega) (by rw [mes, e1]; first | (rw [if_pos f26]; done) | (rw [if_neg (by rw [t26]; decide)])) rfl
  refine V.sub [2, 1, 0] (lv' := [(0, .ref hM), (1, .int (nI 0)), (2, .int (nI 0))]) rfl ?_
  exact L13 _ 0 0 (by omega) rfl rfl
set_option maxHeartbeats 4000000 in
set_option maxRecDepth 100000 in
theorem m_alike_no (l : Launch) (D : va_G) (cI cZ cC cJ : ClassId) (hM mTx mPg mLe mSz mLo mHi mDp mFu mFv mRw mBl mWy mFe : Nat) (ft : Nat) (ty : Nat) (wr : Nat) (cn : Nat) (pf : Nat) (mn : Nat) (tx : Nat → Nat) (le : Nat → Nat) (sz : Nat → Nat) (lo : Nat → Nat) (hi : Nat → Nat) (dp : Nat → Nat) (hty : ty ≤ 60) (hcn : cn ≤ 30) (htx : ∀ i, tx i < 65536) (hle : ∀ i, le i ≤ 8) (hsz : ∀ i, sz i ≤ 7) (hv : ∀ i, i < (mfO le sz cn lo hi dp cn).1 → vpr sz (mfO le sz cn lo hi dp cn).2.1 (mfO le sz cn lo hi dp cn).2.2.1 (mfO le sz cn lo hi dp cn).2.2.2 i) (h211 : (mfO le sz cn lo hi dp cn).1 ≤ 211) (hlo : ∀ i, i < (mfO le sz cn lo hi dp cn).1 → (mfO le sz cn lo hi dp cn).2.1 i < 31 ∧ (mfO le sz cn lo hi dp cn).2.2.2 i ≤ 60) (hh : (mow tx le sz (mfO le sz cn lo hi dp cn).2.1 (mfO le sz cn lo hi dp cn).2.2.2 ty (mfO le sz cn lo hi dp cn).1) = none) : CI l yX7_alike wsX7_alike { frames := 2, cells := 0, slots := 0, locals := 48 } D vwCl (tys4 cI cZ cC cJ) [.ref hM] [(hM, .inr (7, [.int (nI ft), .int (nI ty), .ref mTx, .int (nI wr), .ref mPg, .int (nI cn), .ref mLe, .ref mSz, .int (nI pf), .ref mLo, .ref mHi, .ref mDp, .int (nI mn), .ref mFu, .ref mFv, .ref mRw, .ref mBl, .ref mWy, .ref mFe])), (mTx, .inl (cI, 60, .inl (fun i => nI (tx i)))), (mLe, .inl (cI, 217, .inl (fun i => nI (le i)))), (mSz, .inl (cI, 31, .inl (fun i => nI (sz i)))), (mLo, .inl (cI, 220, .inl (fun i => nI (lo i)))), (mHi, .inl (cI, 220, .inl (fun i => nI (hi i)))), (mDp, .inl (cI, 220, .inl (fun i => nI (dp i))))] ((-1)) [(hM, .inr (7, [.int (nI 0), .int (nI 0), .ref mTx, .int (nI wr), .ref mPg, .int (nI cn), .ref mLe, .ref mSz, .int (nI ((mfO le sz cn lo hi dp cn).1)), .ref mLo, .ref mHi, .ref mDp, .int (nI mn), .ref mFu, .ref mFv, .ref mRw, .ref mBl, .ref mWy, .ref mFe])), (mTx, .inl (cI, 60, .inl (fun i => nI (tx i)))), (mLe, .inl (cI, 217, .inl (fun i => nI (le i)))), (mSz, .inl (cI, 31, .inl (fun i => nI (sz i)))), (mLo, .inl (cI, 220, .inl (fun i => nI (((mfO le sz cn lo hi dp cn).2.1) i)))), (mHi, .inl (cI, 220, .inl (fun i => nI (((mfO le sz cn lo hi dp cn).2.2.1) i)))), (mDp, .inl (cI, 220, .inl (fun i => nI (((mfO le sz cn lo hi dp cn).2.2.2) i))))] := by
  refine CI.ofV rfl (by decide +kernel) rfl (Nat.le_of_ble_eq_true rfl) ?_
  intro κ x hret
  refine V_aload_n x 0 dX7_alike_0 rfl rfl ?_
  refine V_iconst (v := nI 0) x dX7_alike_1 (by decide +kernel) ?_
  refine V_put (ty := .int) x 0 7 0 [(hM, .inr (7, [.int (nI 0), .int (nI ty), .ref mTx, .int (nI wr), .ref mPg, .int (nI cn), .ref mLe, .ref mSz, .int (nI pf), .ref mLo, .ref mHi, .ref mDp, .int (nI mn), .ref mFu, .ref mFv, .ref mRw, .ref mBl, .ref mWy, .ref mFe])), (mTx, .inl (cI, 60, .inl (fun i => nI (tx i)))), (mLe, .inl (cI, 217, .inl (fun i => nI (le i)))), (mSz, .inl (cI, 31, .inl (fun i => nI (sz i)))), (mLo, .inl (cI, 220, .inl (fun i => nI (lo i)))), (mHi, .inl (cI, 220, .inl (fun i => nI (hi i)))), (mDp, .inl (cI, 220, .inl (fun i => nI (dp i))))] hinX7 tyX7 tyX7_ok nmX7 rfl rfl (by decide) flX7_50 rfl (by decide +kernel) rfl rfl (Nat.le_of_ble_eq_true rfl) rfl dX7_alike_2 ?_
  refine V_aload_n x 0 dX7_alike_5 rfl rfl ?_
  refine V_callVi x (m_take l D cI cZ cC cJ hM mTx mPg mLe mSz mLo mHi mDp mFu mFv mRw mBl mWy mFe 0 ty wr cn pf mn ) 0 (gdV mlX7_57 imX7_take seX7_take inX7 coX7_take) rfl hdX7_take ⟨Nat.le_of_ble_eq_true rfl, Nat.le_of_ble_eq_true rfl⟩ ⟨rfl, rfl⟩ 0 rfl rfl rfl [0] [(hM, .inr (7, [.int (nI 0), .int (nI 0), .ref mTx, .int (nI wr), .ref mPg, .int (nI cn), .ref mLe, .ref mSz, .int (nI pf), .ref mLo, .ref mHi, .ref mDp, .int (nI mn), .ref mFu, .ref mFv, .ref mRw, .ref mBl, .ref mWy, .ref mFe])), (mTx, .inl (cI, 60, .inl (fun i => nI (tx i)))), (mLe, .inl (cI, 217, .inl (fun i => nI (le i)))), (mSz, .inl (cI, 31, .inl (fun i => nI (sz i)))), (mLo, .inl (cI, 220, .inl (fun i => nI (lo i)))), (mHi, .inl (cI, 220, .inl (fun i => nI (hi i)))), (mDp, .inl (cI, 220, .inl (fun i => nI (dp i))))] rfl rfl [hM] rfl rfl [some 0] rfl rfl (rest := []) rfl (Nat.le_of_ble_eq_true rfl) dX7_alike_6 ⟨Nat.zero_le _, Nat.zero_le _⟩ ?_
  refine V_istore_n x 1 [(1, .int (nI ty)), (0, .ref hM)] dX7_alike_9 rfl (by decide) rfl ?_
  refine V_aload_n x 0 dX7_alike_10 rfl rfl ?_
  refine V_callVv x (m_findPrefixes l D cI cZ cC cJ hM mTx mPg mLe mSz mLo mHi mDp mFu mFv mRw mBl mWy mFe 0 0 wr cn pf mn le sz lo hi dp (by first | omega | assumption) (by first | omega | assumption) (by first | omega | assumption)) 0 (gdV mlX7_110 imX7_findPrefixes seX7_findPrefixes inX7 coX7_findPrefixes) rfl hdX7_findPrefixes ⟨Nat.le_of_ble_eq_true rfl, Nat.le_of_ble_eq_true rfl⟩ ⟨rfl, rfl⟩ 0 rfl rfl rfl [0, 2, 3, 4, 5, 6] [(hM, .inr (7, [.int (nI 0), .int (nI 0), .ref mTx, .int (nI wr), .ref mPg, .int (nI cn), .ref mLe, .ref mSz, .int (nI ((mfO le sz cn lo hi dp cn).1)), .ref mLo, .ref mHi, .ref mDp, .int (nI mn), .ref mFu, .ref mFv, .ref mRw, .ref mBl, .ref mWy, .ref mFe])), (mTx, .inl (cI, 60, .inl (fun i => nI (tx i)))), (mLe, .inl (cI, 217, .inl (fun i => nI (le i)))), (mSz, .inl (cI, 31, .inl (fun i => nI (sz i)))), (mLo, .inl (cI, 220, .inl (fun i => nI (((mfO le sz cn lo hi dp cn).2.1) i)))), (mHi, .inl (cI, 220, .inl (fun i => nI (((mfO le sz cn lo hi dp cn).2.2.1) i)))), (mDp, .inl (cI, 220, .inl (fun i => nI (((mfO le sz cn lo hi dp cn).2.2.2) i))))] rfl rfl [hM, mLe, mSz, mLo, mHi, mDp] rfl rfl [some 0, none, some 1, some 2, some 3, some 4, some 5] rfl rfl (rest := []) rfl (Nat.le_of_ble_eq_true rfl) dX7_alike_11 ⟨Nat.zero_le _, Nat.zero_le _⟩ ?_
  refine V_iconst (v := (-1)) x dX7_alike_14 (by decide +kernel) ?_
  refine V_istore_n x 2 [(2, .int (-1)), (1, .int (nI ty)), (0, .ref hM)] dX7_alike_15 rfl (by decide) rfl ?_
  refine V_iconst (v := nI 0) x dX7_alike_16 (by decide +kernel) ?_
  refine V_istore_n x 3 [(3, .int (nI 0)), (2, .int (-1)), (1, .int (nI ty)), (0, .ref hM)] dX7_alike_17 rfl (by decide) rfl ?_
  have L18 : ∀ (k18 : Nat) (k : Nat) (o1 : Option Nat) (hk : k ≤ (mfO le sz cn lo hi dp cn).1) (e1 : mow tx le sz (mfO le sz cn lo hi dp cn).2.1 (mfO le sz cn lo hi dp cn).2.2.2 ty k = o1) (hk18 : (mfO le sz cn lo hi dp cn).1 - k = k18), V κ 0 0 [(hM, .inr (7, [.int (nI 0), .int (nI 0), .ref mTx, .int (nI wr), .ref mPg, .int (nI cn), .ref mLe, .ref mSz, .int (nI ((mfO le sz cn lo hi dp cn).1)), .ref mLo, .ref mHi, .ref mDp, .int (nI mn), .ref mFu, .ref mFv, .ref mRw, .ref mBl, .ref mWy, .ref mFe])), (mTx, .inl (cI, 60, .inl (fun i => nI (tx i)))), (mLe, .inl (cI, 217, .inl (fun i => nI (le i)))), (mSz, .inl (cI, 31, .inl (fun i => nI (sz i)))), (mLo, .inl (cI, 220, .inl (fun i => nI (((mfO le sz cn lo hi dp cn).2.1) i)))), (mHi, .inl (cI, 220, .inl (fun i => nI (((mfO le sz cn lo hi dp cn).2.2.1) i)))), (mDp, .inl (cI, 220, .inl (fun i => nI (((mfO le sz cn lo hi dp cn).2.2.2) i))))] 18 [(0, .ref hM), (1, .int (nI ty)), (2, .int (oN o1)), (3, .int (nI k))] [] := by
    intro k18
    induction k18 using Nat.strongRecOn with
    | ind k18 ih18 =>
      intro k o1 hk e1 hk18
      refine V_iload_n x 3 dX7_alike_18 rfl rfl ?_
      refine V_aload_n x 0 dX7_alike_19 rfl rfl ?_
      refine V_get x 0 7 8 hinX7 rfl rfl (by decide) flX7_100 rfl dX7_alike_20 ?_
      refine V_icmp_geN x 78 dX7_alike_23 rfl (fun t23 => ?_) (fun f23 => ?_)
      · skip
        refine V_iload_n x 2 dX7_alike_78 rfl rfl ?_
        refine V_if_geO x 84 dX7_alike_79 rfl (fun z hz => by have := mow_lt (e1.trans hz); omega) (fun z79 t79 => ?_) (fun f79 => ?_)
        · skip
          simp only [t79, oN_some]
          exact absurd ((show mow tx le sz (mfO le sz cn lo hi dp cn).2.1 (mfO le sz cn lo hi dp cn).2.2.2 ty (mfO le sz cn lo hi dp cn).1 = some z79 by rw [← show k = (mfO le sz cn lo hi dp cn).1 by omega]; exact e1.trans t79).symm.trans hh) (fun q => by cases q)
        · skip
          simp only [f79, oN_none]
          refine V_iconst (v := (-1)) x dX7_alike_82 (by decide +kernel) ?_
          exact hret _ _ dX7_alike_83
      · skip
        have hlk := hlo k (by omega)
        refine V_aload_n x 0 dX7_alike_26 rfl rfl ?_
        refine V_get x 0 7 11 hinX7 rfl rfl (by decide) flX7_28 rfl dX7_alike_27 ?_
        refine V_iload_n x 3 dX7_alike_30 rfl rfl ?_
        refine V_iald x 6 0 rfl rfl dX7_alike_31 (by omega) (by omega) ?_
        refine V_iload_n x 1 dX7_alike_32 rfl rfl ?_
        have J59 : V κ 0 0 [(hM, .inr (7, [.int (nI 0), .int (nI 0), .ref mTx, .int (nI wr), .ref mPg, .int (nI cn), .ref mLe, .ref mSz, .int (nI ((mfO le sz cn lo hi dp cn).1)), .ref mLo, .ref mHi, .ref mDp, .int (nI mn), .ref mFu, .ref mFv, .ref mRw, .ref mBl, .ref mWy, .ref mFe])), (mTx, .inl (cI, 60, .inl (fun i => nI (tx i)))), (mLe, .inl (cI, 217, .inl (fun i => nI (le i)))), (mSz, .inl (cI, 31, .inl (fun i => nI (sz i)))), (mLo, .inl (cI, 220, .inl (fun i => nI (((mfO le sz cn lo hi dp cn).2.1) i)))), (mHi, .inl (cI, 220, .inl (fun i => nI (((mfO le sz cn lo hi dp cn).2.2.1) i)))), (mDp, .inl (cI, 220, .inl (fun i => nI (((mfO le sz cn lo hi dp cn).2.2.2) i))))] 59 [(0, .ref hM), (1, .int (nI ty)), (2, .int (oN o1)), (3, .int (nI k))] [.int (bI (decide ((mfO le sz cn lo hi dp cn).2.2.2 k = ty ∧ (ty = 0 ∨ mbw tx le ((mfO le sz cn lo hi dp cn).2.1 k) ty (sz ((mfO le sz cn lo hi dp cn).2.1 k)) ty = true))))] := by
          refine V_istore x 4 [(4, .int (bI (decide ((mfO le sz cn lo hi dp cn).2.2.2 k = ty ∧ (ty = 0 ∨ mbw tx le ((mfO le sz cn lo hi dp cn).2.1 k) ty (sz ((mfO le sz cn lo hi dp cn).2.1 k)) ty = true))))), (0, .ref hM), (1, .int (nI ty)), (2, .int (oN o1)), (3, .int (nI k))] dX7_alike_59 (by decide) rfl ?_
          refine V_iload x 4 dX7_alike_61 rfl ?_
          have J71 : V κ 0 0 [(hM, .inr (7, [.int (nI 0), .int (nI 0), .ref mTx, .int (nI wr), .ref mPg, .int (nI cn), .ref mLe, .ref mSz, .int (nI ((mfO le sz cn lo hi dp cn).1)), .ref mLo, .ref mHi, .ref mDp, .int (nI mn), .ref mFu, .ref mFv, .ref mRw, .ref mBl, .ref mWy, .ref mFe])), (mTx, .inl (cI, 60, .inl (fun i => nI (tx i)))), (mLe, .inl (cI, 217, .inl (fun i => nI (le i)))), (mSz, .inl (cI, 31, .inl (fun i => nI (sz i)))), (mLo, .inl (cI, 220, .inl (fun i => nI (((mfO le sz cn lo hi dp cn).2.1) i)))), (mHi, .inl (cI, 220, .inl (fun i => nI (((mfO le sz cn lo hi dp cn).2.2.1) i)))), (mDp, .inl (cI, 220, .inl (fun i => nI (((mfO le sz cn lo hi dp cn).2.2.2) i))))] 71 [(4, .int (bI (decide ((mfO le sz cn lo hi dp cn).2.2.2 k = ty ∧ (ty = 0 ∨ mbw tx le ((mfO le sz cn lo hi dp cn).2.1 k) ty (sz ((mfO le sz cn lo hi dp cn).2.1 k)) ty = true))))), (0, .ref hM), (1, .int (nI ty)), (2, .int (oN o1)), (3, .int (nI k))] [.int (oN (if (mfO le sz cn lo hi dp cn).2.2.2 k = ty ∧ (ty = 0 ∨ mbw tx le ((mfO le sz cn lo hi dp cn).2.1 k) ty (sz ((mfO le sz cn lo hi dp cn).2.1 k)) ty = true) then some k else o1))] := by
            refine V_istore_n x 2 [(2, .int (oN (if (mfO le sz cn lo hi dp cn).2.2.2 k = ty ∧ (ty = 0 ∨ mbw tx le ((mfO le sz cn lo hi dp cn).2.1 k) ty (sz ((mfO le sz cn lo hi dp cn).2.1 k)) ty = true) then some k else o1))), (4, .int (bI (decide ((mfO le sz cn lo hi dp cn).2.2.2 k = ty ∧ (ty = 0 ∨ mbw tx le ((mfO le sz cn lo hi dp cn).2.1 k) ty (sz ((mfO le sz cn lo hi dp cn).2.1 k)) ty = true))))), (0, .ref hM), (1, .int (nI ty)), (3, .int (nI k))] dX7_alike_71 rfl (by decide) rfl ?_
            refine V_iinc x 3 4 [(3, .int (nI (k + 1))), (2, .int (oN (if (mfO le sz cn lo hi dp cn).2.2.2 k = ty ∧ (ty = 0 ∨ mbw tx le ((mfO le sz cn lo hi dp cn).2.1 k) ty (sz ((mfO le sz cn lo hi dp cn).2.1 k)) ty = true) then some k else o1))), (4, .int (bI (decide ((mfO le sz cn lo hi dp cn).2.2.2 k = ty ∧ (ty = 0 ∨ mbw tx le ((mfO le sz cn lo hi dp cn).2.1 k) ty (sz ((mfO le sz cn lo hi dp cn).2.1 k)) ty = true))))), (0, .ref hM), (1, .int (nI ty))] dX7_alike_72 rfl (iinc_1 _) (by decide) rfl ?_
            refine V_goto x 18 dX7_alike_75 rfl ?_
            refine V.sub [3, 4, 1, 0] (lv' := [(0, .ref hM), (1, .int (nI ty)), (2, .int (oN ((if (mfO le sz cn lo hi dp cn).2.2.2 k = ty ∧ (ty = 0 ∨ mbw tx le ((mfO le sz cn lo hi dp cn).2.1 k) ty (sz ((mfO le sz cn lo hi dp cn).2.1 k)) ty = true) then some k else o1)))), (3, .int (nI ((k + 1))))]) rfl ?_
            exact ih18 ((mfO le sz cn lo hi dp cn).1 - (k + 1)) (by omega) (k + 1) (if (mfO le sz cn lo hi dp cn).2.2.2 k = ty ∧ (ty = 0 ∨ mbw tx le ((mfO le sz cn lo hi dp cn).2.1 k) ty (sz ((mfO le sz cn lo hi dp cn).2.1 k)) ty = true) then some k else o1) (by omega) (by rw [mow, e1]) rfl
          refine V_if_eqB x 70 dX7_alike_63 rfl (fun t63 => ?_) (fun f63 => ?_)
          · skip
            refine V_iload_n x 2 dX7_alike_70 rfl rfl ?_
            refine V.ci (x' := oN (if (mfO le sz cn lo hi dp cn).2.2.2 k = ty ∧ (ty = 0 ∨ mbw tx le ((mfO le sz cn lo hi dp cn).2.1 k) ty (sz ((mfO le sz cn lo hi dp cn).2.1 k)) ty = true) then some k else o1)) (by first | (rw [if_pos (of_decide_eq_true f63)]; rfl) | (rw [if_neg (of_decide_eq_false t63)])) ?_
            exact J71
          · skip
            refine V_iload_n x 3 dX7_alike_66 rfl rfl ?_
            refine V_goto x 71 dX7_alike_67 rfl ?_
            refine V.ci (x' := oN (if (mfO le sz cn lo hi dp cn).2.2.2 k = ty ∧ (ty = 0 ∨ mbw tx le ((mfO le sz cn lo hi dp cn).2.1 k) ty (sz ((mfO le sz cn lo hi dp cn).2.1 k)) ty = true) then some k else o1)) (by first | (rw [if_pos (of_decide_eq_true f63)]; rfl) | (rw [if_neg (of_decide_eq_false t63)])) ?_
            exact J71
        refine V_icmp_neN x 58 dX7_alike_33 rfl (fun t33 => ?_) (fun f33 => ?_) (by omega) (by omega)
        · skip
          refine V_iconst (v := nI 0) x dX7_alike_58 (by decide +kernel) ?_
          refine V.ci (x' := bI (decide ((mfO le sz cn lo hi dp cn).2.2.2 k = ty ∧ (ty = 0 ∨ mbw tx le ((mfO le sz cn lo hi dp cn).2.1 k) ty (sz ((mfO le sz cn lo hi dp cn).2.1 k)) ty = true)))) (by first | exact aj_1 t33 | exact aj_2 f33 t37 | exact aj_3 f37 t51 | exact aj_4 f33 f51) ?_
          exact J59
        · skip
          refine V_iload_n x 1 dX7_alike_36 rfl rfl ?_
          refine V_if_eqN x 54 dX7_alike_37 rfl (fun t37 => ?_) (fun f37 => ?_)
          · skip
            refine V_iconst (v := nI 1) x dX7_alike_54 (by decide +kernel) ?_
            refine V_goto x 59 dX7_alike_55 rfl ?_
            refine V.ci (x' := bI (decide ((mfO le sz cn lo hi dp cn).2.2.2 k = ty ∧ (ty = 0 ∨ mbw tx le ((mfO le sz cn lo hi dp cn).2.1 k) ty (sz ((mfO le sz cn lo hi dp cn).2.1 k)) ty = true)))) (by first | exact aj_1 t33 | exact aj_2 f33 t37 | exact aj_3 f37 t51 | exact aj_4 f33 f51) ?_
            exact J59
          · skip
            refine V_aload_n x 0 dX7_alike_40 rfl rfl ?_
            refine V_aload_n x 0 dX7_alike_41 rfl rfl ?_
            refine V_get x 0 7 9 hinX7 rfl rfl (by decide) flX7_22 rfl dX7_alike_42 ?_
            refine V_iload_n x 3 dX7_alike_45 rfl rfl ?_
            refine V_iald x 4 0 rfl rfl dX7_alike_46 (by omega) (by omega) ?_
            refine V_iload_n x 1 dX7_alike_47 rfl rfl ?_
            refine V_callVi x (m_beginsWith l D cI cZ cC cJ hM mTx mPg mLe mSz mLo mHi mDp mFu mFv mRw mBl mWy mFe 0 0 wr cn ((mfO le sz cn lo hi dp cn).1) mn tx le sz (((mfO le sz cn lo hi dp cn).2.1) k) ty hlk.1 (by first | omega | assumption) (by first | omega | assumption) (by first | omega | assumption) (by first | omega | assumption)) 2 (gdV mlX7_97 imX7_beginsWith seX7_beginsWith inX7 coX7_beginsWith) rfl hdX7_beginsWith ⟨Nat.le_of_ble_eq_true rfl, Nat.le_of_ble_eq_true rfl⟩ ⟨rfl, rfl⟩ 0 rfl rfl rfl [0, 1, 2, 3] [(hM, .inr (7, [.int (nI 0), .int (nI 0), .ref mTx, .int (nI wr), .ref mPg, .int (nI cn), .ref mLe, .ref mSz, .int (nI (((mfO le sz cn lo hi dp cn).1))), .ref mLo, .ref mHi, .ref mDp, .int (nI mn), .ref mFu, .ref mFv, .ref mRw, .ref mBl, .ref mWy, .ref mFe])), (mTx, .inl (cI, 60, .inl (fun i => nI (tx i)))), (mLe, .inl (cI, 217, .inl (fun i => nI (le i)))), (mSz, .inl (cI, 31, .inl (fun i => nI (sz i)))), (mLo, .inl (cI, 220, .inl (fun i => nI (((mfO le sz cn lo hi dp cn).2.1) i)))), (mHi, .inl (cI, 220, .inl (fun i => nI (((mfO le sz cn lo hi dp cn).2.2.1) i)))), (mDp, .inl (cI, 220, .inl (fun i => nI (((mfO le sz cn lo hi dp cn).2.2.2) i))))] rfl rfl [hM, mTx, mLe, mSz] rfl rfl [some 0, some 1, some 2, some 3] rfl rfl (rest := []) rfl (Nat.le_of_ble_eq_true rfl) dX7_alike_48 ⟨Nat.zero_le _, Nat.zero_le _⟩ ?_
            refine V_if_eqB x 58 dX7_alike_51 rfl (fun t51 => ?_) (fun f51 => ?_)
            · skip
              refine V_iconst (v := nI 0) x dX7_alike_58 (by decide +kernel) ?_
              refine V.ci (x' := bI (decide ((mfO le sz cn lo hi dp cn).2.2.2 k = ty ∧ (ty = 0 ∨ mbw tx le ((mfO le sz cn lo hi dp cn).2.1 k) ty (sz ((mfO le sz cn lo hi dp cn).2.1 k)) ty = true)))) (by first | exact aj_1 t33 | exact aj_2 f33 t37 | exact aj_3 f37 t51 | exact aj_4 f33 f51) ?_
              exact J59
            · skip
              refine V_iconst (v := nI 1) x dX7_alike_54 (by decide +kernel) ?_
              refine V_goto x 59 dX7_alike_55 rfl ?_
              refine V.ci (x' := bI (decide ((mfO le sz cn lo hi dp cn).2.2.2 k = ty ∧ (ty = 0 ∨ mbw tx le ((mfO le sz cn lo hi dp cn).2.1 k) ty (sz ((mfO le sz cn lo hi dp cn).2.1 k)) ty = true)))) (by first | exact aj_1 t33 | exact aj_2 f33 t37 | exact aj_3 f37 t51 | exact aj_4 f33 f51) ?_
              exact J59
  refine V.sub [3, 2, 1, 0] (lv' := [(0, .ref hM), (1, .int (nI ty)), (2, .int (oN none)), (3, .int (nI 0))]) rfl ?_
  exact L18 _ 0 none (by omega) rfl rfl
set_option maxHeartbeats 4000000 in
set_option maxRecDepth 100000 in
theorem m_alike_yes (l : Launch) (D : va_G) (cI cZ cC cJ : ClassId) (hM mTx mPg mLe mSz mLo mHi mDp mFu mFv mRw mBl mWy mFe : Nat) (ft : Nat) (ty : Nat) (wr : Nat) (cn : Nat) (pf : Nat) (mn : Nat) (tx : Nat → Nat) (le : Nat → Nat) (sz : Nat → Nat) (lo : Nat → Nat) (hi : Nat → Nat) (dp : Nat → Nat) (z : Nat) (hty : ty ≤ 60) (hcn : cn ≤ 30) (htx : ∀ i, tx i < 65536) (hle : ∀ i, le i ≤ 8) (hsz : ∀ i, sz i ≤ 7) (hv : ∀ i, i < (mfO le sz cn lo hi dp cn).1 → vpr sz (mfO le sz cn lo hi dp cn).2.1 (mfO le sz cn lo hi dp cn).2.2.1 (mfO le sz cn lo hi dp cn).2.2.2 i) (h211 : (mfO le sz cn lo hi dp cn).1 ≤ 211) (hlo : ∀ i, i < (mfO le sz cn lo hi dp cn).1 → (mfO le sz cn lo hi dp cn).2.1 i < 31 ∧ (mfO le sz cn lo hi dp cn).2.2.2 i ≤ 60) (hh : (mow tx le sz (mfO le sz cn lo hi dp cn).2.1 (mfO le sz cn lo hi dp cn).2.2.2 ty (mfO le sz cn lo hi dp cn).1) = some z) : CI l yX7_alike wsX7_alike { frames := 2, cells := 0, slots := 0, locals := 48 } D vwCl (tys4 cI cZ cC cJ) [.ref hM] [(hM, .inr (7, [.int (nI ft), .int (nI ty), .ref mTx, .int (nI wr), .ref mPg, .int (nI cn), .ref mLe, .ref mSz, .int (nI pf), .ref mLo, .ref mHi, .ref mDp, .int (nI mn), .ref mFu, .ref mFv, .ref mRw, .ref mBl, .ref mWy, .ref mFe])), (mTx, .inl (cI, 60, .inl (fun i => nI (tx i)))), (mLe, .inl (cI, 217, .inl (fun i => nI (le i)))), (mSz, .inl (cI, 31, .inl (fun i => nI (sz i)))), (mLo, .inl (cI, 220, .inl (fun i => nI (lo i)))), (mHi, .inl (cI, 220, .inl (fun i => nI (hi i)))), (mDp, .inl (cI, 220, .inl (fun i => nI (dp i))))] ((nI (mac le sz (mfO le sz cn lo hi dp cn).2.1 (mfO le sz cn lo hi dp cn).2.2.1 (mfO le sz cn lo hi dp cn).2.2.2 z (mfO le sz cn lo hi dp cn).1))) [(hM, .inr (7, [.int (nI 0), .int (nI 0), .ref mTx, .int (nI wr), .ref mPg, .int (nI cn), .ref mLe, .ref mSz, .int (nI ((mfO le sz cn lo hi dp cn).1)), .ref mLo, .ref mHi, .ref mDp, .int (nI mn), .ref mFu, .ref mFv, .ref mRw, .ref mBl, .ref mWy, .ref mFe])), (mTx, .inl (cI, 60, .inl (fun i => nI (tx i)))), (mLe, .inl (cI, 217, .inl (fun i => nI (le i)))), (mSz, .inl (cI, 31, .inl (fun i => nI (sz i)))), (mLo, .inl (cI, 220, .inl (fun i => nI (((mfO le sz cn lo hi dp cn).2.1) i)))), (mHi, .inl (cI, 220, .inl (fun i => nI (((mfO le sz cn lo hi dp cn).2.2.1) i)))), (mDp, .inl (cI, 220, .inl (fun i => nI (((mfO le sz cn lo hi dp cn).2.2.2) i))))] := by
  refine CI.ofV rfl (by decide +kernel) rfl (Nat.le_of_ble_eq_true rfl) ?_
  intro κ x hret
  refine V_aload_n x 0 dX7_alike_0 rfl rfl ?_
  refine V_iconst (v := nI 0) x dX7_alike_1 (by decide +kernel) ?_
  refine V_put (ty := .int) x 0 7 0 [(hM, .inr (7, [.int (nI 0), .int (nI ty), .ref mTx, .int (nI wr), .ref mPg, .int (nI cn), .ref mLe, .ref mSz, .int (nI pf), .ref mLo, .ref mHi, .ref mDp, .int (nI mn), .ref mFu, .ref mFv, .ref mRw, .ref mBl, .ref mWy, .ref mFe])), (mTx, .inl (cI, 60, .inl (fun i => nI (tx i)))), (mLe, .inl (cI, 217, .inl (fun i => nI (le i)))), (mSz, .inl (cI, 31, .inl (fun i => nI (sz i)))), (mLo, .inl (cI, 220, .inl (fun i => nI (lo i)))), (mHi, .inl (cI, 220, .inl (fun i => nI (hi i)))), (mDp, .inl (cI, 220, .inl (fun i => nI (dp i))))] hinX7 tyX7 tyX7_ok nmX7 rfl rfl (by decide) flX7_50 rfl (by decide +kernel) rfl rfl (Nat.le_of_ble_eq_true rfl) rfl dX7_alike_2 ?_
  refine V_aload_n x 0 dX7_alike_5 rfl rfl ?_
  refine V_callVi x (m_take l D cI cZ cC cJ hM mTx mPg mLe mSz mLo mHi mDp mFu mFv mRw mBl mWy mFe 0 ty wr cn pf mn ) 0 (gdV mlX7_57 imX7_take seX7_take inX7 coX7_take) rfl hdX7_take ⟨Nat.le_of_ble_eq_true rfl, Nat.le_of_ble_eq_true rfl⟩ ⟨rfl, rfl⟩ 0 rfl rfl rfl [0] [(hM, .inr (7, [.int (nI 0), .int (nI 0), .ref mTx, .int (nI wr), .ref mPg, .int (nI cn), .ref mLe, .ref mSz, .int (nI pf), .ref mLo, .ref mHi, .ref mDp, .int (nI mn), .ref mFu, .ref mFv, .ref mRw, .ref mBl, .ref mWy, .ref mFe])), (mTx, .inl (cI, 60, .inl (fun i => nI (tx i)))), (mLe, .inl (cI, 217, .inl (fun i => nI (le i)))), (mSz, .inl (cI, 31, .inl (fun i => nI (sz i)))), (mLo, .inl (cI, 220, .inl (fun i => nI (lo i)))), (mHi, .inl (cI, 220, .inl (fun i => nI (hi i)))), (mDp, .inl (cI, 220, .inl (fun i => nI (dp i))))] rfl rfl [hM] rfl rfl [some 0] rfl rfl (rest := []) rfl (Nat.le_of_ble_eq_true rfl) dX7_alike_6 ⟨Nat.zero_le _, Nat.zero_le _⟩ ?_
  refine V_istore_n x 1 [(1, .int (nI ty)), (0, .ref hM)] dX7_alike_9 rfl (by decide) rfl ?_
  refine V_aload_n x 0 dX7_alike_10 rfl rfl ?_
  refine V_callVv x (m_findPrefixes l D cI cZ cC cJ hM mTx mPg mLe mSz mLo mHi mDp mFu mFv mRw mBl mWy mFe 0 0 wr cn pf mn le sz lo hi dp (by first | omega | assumption) (by first | omega | assumption) (by first | omega | assumption)) 0 (gdV mlX7_110 imX7_findPrefixes seX7_findPrefixes inX7 coX7_findPrefixes) rfl hdX7_findPrefixes ⟨Nat.le_of_ble_eq_true rfl, Nat.le_of_ble_eq_true rfl⟩ ⟨rfl, rfl⟩ 0 rfl rfl rfl [0, 2, 3, 4, 5, 6] [(hM, .inr (7, [.int (nI 0), .int (nI 0), .ref mTx, .int (nI wr), .ref mPg, .int (nI cn), .ref mLe, .ref mSz, .int (nI ((mfO le sz cn lo hi dp cn).1)), .ref mLo, .ref mHi, .ref mDp, .int (nI mn), .ref mFu, .ref mFv, .ref mRw, .ref mBl, .ref mWy, .ref mFe])), (mTx, .inl (cI, 60, .inl (fun i => nI (tx i)))), (mLe, .inl (cI, 217, .inl (fun i => nI (le i)))), (mSz, .inl (cI, 31, .inl (fun i => nI (sz i)))), (mLo, .inl (cI, 220, .inl (fun i => nI (((mfO le sz cn lo hi dp cn).2.1) i)))), (mHi, .inl (cI, 220, .inl (fun i => nI (((mfO le sz cn lo hi dp cn).2.2.1) i)))), (mDp, .inl (cI, 220, .inl (fun i => nI (((mfO le sz cn lo hi dp cn).2.2.2) i))))] rfl rfl [hM, mLe, mSz, mLo, mHi, mDp] rfl rfl [some 0, none, some 1, some 2, some 3, some 4, some 5] rfl rfl (rest := []) rfl (Nat.le_of_ble_eq_true rfl) dX7_alike_11 ⟨Nat.zero_le _, Nat.zero_le _⟩ ?_
  refine V_iconst (v := (-1)) x dX7_alike_14 (by decide +kernel) ?_
  refine V_istore_n x 2 [(2, .int (-1)), (1, .int (nI ty)), (0, .ref hM)] dX7_alike_15 rfl (by decide) rfl ?_
  refine V_iconst (v := nI 0) x dX7_alike_16 (by decide +kernel) ?_
  refine V_istore_n x 3 [(3, .int (nI 0)), (2, .int (-1)), (1, .int (nI ty)), (0, .ref hM)] dX7_alike_17 rfl (by decide) rfl ?_
  have L18 : ∀ (k18 : Nat) (k : Nat) (o1 : Option Nat) (hk : k ≤ (mfO le sz cn lo hi dp cn).1) (e1 : mow tx le sz (mfO le sz cn lo hi dp cn).2.1 (mfO le sz cn lo hi dp cn).2.2.2 ty k = o1) (hk18 : (mfO le sz cn lo hi dp cn).1 - k = k18), V κ 0 0 [(hM, .inr (7, [.int (nI 0), .int (nI 0), .ref mTx, .int (nI wr), .ref mPg, .int (nI cn), .ref mLe, .ref mSz, .int (nI ((mfO le sz cn lo hi dp cn).1)), .ref mLo, .ref mHi, .ref mDp, .int (nI mn), .ref mFu, .ref mFv, .ref mRw, .ref mBl, .ref mWy, .ref mFe])), (mTx, .inl (cI, 60, .inl (fun i => nI (tx i)))), (mLe, .inl (cI, 217, .inl (fun i => nI (le i)))), (mSz, .inl (cI, 31, .inl (fun i => nI (sz i)))), (mLo, .inl (cI, 220, .inl (fun i => nI (((mfO le sz cn lo hi dp cn).2.1) i)))), (mHi, .inl (cI, 220, .inl (fun i => nI (((mfO le sz cn lo hi dp cn).2.2.1) i)))), (mDp, .inl (cI, 220, .inl (fun i => nI (((mfO le sz cn lo hi dp cn).2.2.2) i))))] 18 [(0, .ref hM), (1, .int (nI ty)), (2, .int (oN o1)), (3, .int (nI k))] [] := by
    intro k18
    induction k18 using Nat.strongRecOn with
    | ind k18 ih18 =>
      intro k o1 hk e1 hk18
      refine V_iload_n x 3 dX7_alike_18 rfl rfl ?_
      refine V_aload_n x 0 dX7_alike_19 rfl rfl ?_
      refine V_get x 0 7 8 hinX7 rfl rfl (by decide) flX7_100 rfl dX7_alike_20 ?_
      refine V_icmp_geN x 78 dX7_alike_23 rfl (fun t23 => ?_) (fun f23 => ?_)
      · skip
        refine V_iload_n x 2 dX7_alike_78 rfl rfl ?_
        refine V_if_geO x 84 dX7_alike_79 rfl (fun z hz => by have := mow_lt (e1.trans hz); omega) (fun z79 t79 => ?_) (fun f79 => ?_)
        · skip
          simp only [t79, oN_some]
          obtain rfl : z = z79 := (Option.some.inj ((show some z79 = mow tx le sz (mfO le sz cn lo hi dp cn).2.1 (mfO le sz cn lo hi dp cn).2.2.2 ty (mfO le sz cn lo hi dp cn).1 by rw [← show k = (mfO le sz cn lo hi dp cn).1 by omega]; exact (e1.trans t79).symm).trans hh)).symm
          have hz8 := mow_lt hh
          refine V_iconst (v := nI 0) x dX7_alike_84 (by decide +kernel) ?_
          refine V_istore_n x 3 [(3, .int (nI 0)), (0, .ref hM), (1, .int (nI ty)), (2, .int (nI z))] dX7_alike_85 rfl (by decide) rfl ?_
          refine V_iconst (v := nI 0) x dX7_alike_86 (by decide +kernel) ?_
          refine V_istore x 4 [(4, .int (nI 0)), (3, .int (nI 0)), (0, .ref hM), (1, .int (nI ty)), (2, .int (nI z))] dX7_alike_87 (by decide) rfl ?_
          have L89 : ∀ (k89 : Nat) (j : Nat) (c : Nat) (hj : j ≤ (mfO le sz cn lo hi dp cn).1) (e2 : mac le sz (mfO le sz cn lo hi dp cn).2.1 (mfO le sz cn lo hi dp cn).2.2.1 (mfO le sz cn lo hi dp cn).2.2.2 z j = c) (hk89 : (mfO le sz cn lo hi dp cn).1 - j = k89), V κ 0 0 [(hM, .inr (7, [.int (nI 0), .int (nI 0), .ref mTx, .int (nI wr), .ref mPg, .int (nI cn), .ref mLe, .ref mSz, .int (nI ((mfO le sz cn lo hi dp cn).1)), .ref mLo, .ref mHi, .ref mDp, .int (nI mn), .ref mFu, .ref mFv, .ref mRw, .ref mBl, .ref mWy, .ref mFe])), (mTx, .inl (cI, 60, .inl (fun i => nI (tx i)))), (mLe, .inl (cI, 217, .inl (fun i => nI (le i)))), (mSz, .inl (cI, 31, .inl (fun i => nI (sz i)))), (mLo, .inl (cI, 220, .inl (fun i => nI (((mfO le sz cn lo hi dp cn).2.1) i)))), (mHi, .inl (cI, 220, .inl (fun i => nI (((mfO le sz cn lo hi dp cn).2.2.1) i)))), (mDp, .inl (cI, 220, .inl (fun i => nI (((mfO le sz cn lo hi dp cn).2.2.2) i))))] 89 [(0, .ref hM), (2, .int (nI z)), (3, .int (nI c)), (4, .int (nI j))] [] := by
            intro k89
            induction k89 using Nat.strongRecOn with
            | ind k89 ih89 =>
              intro j c hj e2 hk89
              refine V_iload x 4 dX7_alike_89 rfl ?_
              refine V_aload_n x 0 dX7_alike_91 rfl rfl ?_
              refine V_get x 0 7 8 hinX7 rfl rfl (by decide) flX7_100 rfl dX7_alike_92 ?_
              refine V_icmp_geN x 122 dX7_alike_95 rfl (fun t95 => ?_) (fun f95 => ?_)
              · skip
                refine V_iload_n x 3 dX7_alike_122 rfl rfl ?_
                refine V.ci (x' := nI (mac le sz (mfO le sz cn lo hi dp cn).2.1 (mfO le sz cn lo hi dp cn).2.2.1 (mfO le sz cn lo hi dp cn).2.2.2 z (mfO le sz cn lo hi dp cn).1)) (by rw [← e2, show j = (mfO le sz cn lo hi dp cn).1 by omega]) ?_
                exact hret _ _ dX7_alike_123
              · skip
                refine V_aload_n x 0 dX7_alike_98 rfl rfl ?_
                refine V_iload x 4 dX7_alike_99 rfl ?_
                refine V_iload_n x 2 dX7_alike_101 rfl rfl ?_
                refine V_callVi x (m_areAlike l D cI cZ cC cJ hM mTx mPg mLe mSz mLo mHi mDp mFu mFv mRw mBl mWy mFe 0 0 wr cn ((mfO le sz cn lo hi dp cn).1) mn le sz ((mfO le sz cn lo hi dp cn).2.1) ((mfO le sz cn lo hi dp cn).2.2.1) ((mfO le sz cn lo hi dp cn).2.2.2) j z (by first | omega | assumption) (by first | omega | assumption) (hv j (by omega)) (hv z (by omega)) (by first | omega | assumption) (by first | omega | assumption)) 2 (gdV mlX7_107 imX7_areAlike seX7_areAlike inX7 coX7_areAlike) rfl hdX7_areAlike ⟨Nat.le_of_ble_eq_true rfl, Nat.le_of_ble_eq_true rfl⟩ ⟨rfl, rfl⟩ 0 rfl rfl rfl [0, 2, 3, 4, 5, 6] [(hM, .inr (7, [.int (nI 0), .int (nI 0), .ref mTx, .int (nI wr), .ref mPg, .int (nI cn), .ref mLe, .ref mSz, .int (nI (((mfO le sz cn lo hi dp cn).1))), .ref mLo, .ref mHi, .ref mDp, .int (nI mn), .ref mFu, .ref mFv, .ref mRw, .ref mBl, .ref mWy, .ref mFe])), (mTx, .inl (cI, 60, .inl (fun i => nI (tx i)))), (mLe, .inl (cI, 217, .inl (fun i => nI (le i)))), (mSz, .inl (cI, 31, .inl (fun i => nI (sz i)))), (mLo, .inl (cI, 220, .inl (fun i => nI ((((mfO le sz cn lo hi dp cn).2.1)) i)))), (mHi, .inl (cI, 220, .inl (fun i => nI ((((mfO le sz cn lo hi dp cn).2.2.1)) i)))), (mDp, .inl (cI, 220, .inl (fun i => nI ((((mfO le sz cn lo hi dp cn).2.2.2)) i))))] rfl rfl [hM, mLe, mSz, mLo, mHi, mDp] rfl rfl [some 0, none, some 1, some 2, some 3, some 4, some 5] rfl rfl (rest := []) rfl (Nat.le_of_ble_eq_true rfl) dX7_alike_102 ⟨Nat.zero_le _, Nat.zero_le _⟩ ?_
                refine V_if_eqB x 114 dX7_alike_105 rfl (fun t105 => ?_) (fun f105 => ?_)
                · skip
                  refine V_iload_n x 3 dX7_alike_114 rfl rfl ?_
                  refine V_istore_n x 3 [(3, .int (nI c)), (0, .ref hM), (2, .int (nI z)), (4, .int (nI j))] dX7_alike_115 rfl (by decide) rfl ?_
                  refine V_iinc x 4 3 [(4, .int (nI (j + 1))), (3, .int (nI c)), (0, .ref hM), (2, .int (nI z))] dX7_alike_116 rfl (iinc_1 _) (by decide) rfl ?_
                  refine V_goto x 89 dX7_alike_119 rfl ?_
                  refine V.sub [2, 3, 1, 0] (lv' := [(0, .ref hM), (2, .int (nI z)), (3, .int (nI c)), (4, .int (nI ((j + 1))))]) rfl ?_
                  exact ih89 ((mfO le sz cn lo hi dp cn).1 - (j + 1)) (by omega) (j + 1) c (by omega) (by rw [mac, e2]; first | (rw [if_pos f105]; done) | (rw [if_neg (by rw [t105]; decide)])) rfl
                · skip
                  refine V_iload_n x 3 dX7_alike_108 rfl rfl ?_
                  refine V_iconst (v := nI 1) x dX7_alike_109 (by decide +kernel) ?_
                  refine V_iadd x (nI (c + 1)) dX7_alike_110 (nI_add _ _) ?_
                  refine V_goto x 115 dX7_alike_111 rfl ?_
                  refine V_istore_n x 3 [(3, .int (nI (c + 1))), (0, .ref hM), (2, .int (nI z)), (4, .int (nI j))] dX7_alike_115 rfl (by decide) rfl ?_
                  refine V_iinc x 4 3 [(4, .int (nI (j + 1))), (3, .int (nI (c + 1))), (0, .ref hM), (2, .int (nI z))] dX7_alike_116 rfl (iinc_1 _) (by decide) rfl ?_
                  refine V_goto x 89 dX7_alike_119 rfl ?_
                  refine V.sub [2, 3, 1, 0] (lv' := [(0, .ref hM), (2, .int (nI z)), (3, .int (nI ((c + 1)))), (4, .int (nI ((j + 1))))]) rfl ?_
                  exact ih89 ((mfO le sz cn lo hi dp cn).1 - (j + 1)) (by omega) (j + 1) (c + 1) (by omega) (by rw [mac, e2]; first | (rw [if_pos f105]; done) | (rw [if_neg (by rw [t105]; decide)])) rfl
          refine V.sub [2, 4, 1, 0] (lv' := [(0, .ref hM), (2, .int (nI z)), (3, .int (nI 0)), (4, .int (nI 0))]) rfl ?_
          exact L89 _ 0 0 (by omega) rfl rfl
        · skip
          simp only [f79, oN_none]
          exact absurd ((show mow tx le sz (mfO le sz cn lo hi dp cn).2.1 (mfO le sz cn lo hi dp cn).2.2.2 ty (mfO le sz cn lo hi dp cn).1 = none by rw [← show k = (mfO le sz cn lo hi dp cn).1 by omega]; exact e1.trans f79).symm.trans hh) (fun q => by cases q)
      · skip
        have hlk := hlo k (by omega)
        refine V_aload_n x 0 dX7_alike_26 rfl rfl ?_
        refine V_get x 0 7 11 hinX7 rfl rfl (by decide) flX7_28 rfl dX7_alike_27 ?_
        refine V_iload_n x 3 dX7_alike_30 rfl rfl ?_
        refine V_iald x 6 0 rfl rfl dX7_alike_31 (by omega) (by omega) ?_
        refine V_iload_n x 1 dX7_alike_32 rfl rfl ?_
        have J59 : V κ 0 0 [(hM, .inr (7, [.int (nI 0), .int (nI 0), .ref mTx, .int (nI wr), .ref mPg, .int (nI cn), .ref mLe, .ref mSz, .int (nI ((mfO le sz cn lo hi dp cn).1)), .ref mLo, .ref mHi, .ref mDp, .int (nI mn), .ref mFu, .ref mFv, .ref mRw, .ref mBl, .ref mWy, .ref mFe])), (mTx, .inl (cI, 60, .inl (fun i => nI (tx i)))), (mLe, .inl (cI, 217, .inl (fun i => nI (le i)))), (mSz, .inl (cI, 31, .inl (fun i => nI (sz i)))), (mLo, .inl (cI, 220, .inl (fun i => nI (((mfO le sz cn lo hi dp cn).2.1) i)))), (mHi, .inl (cI, 220, .inl (fun i => nI (((mfO le sz cn lo hi dp cn).2.2.1) i)))), (mDp, .inl (cI, 220, .inl (fun i => nI (((mfO le sz cn lo hi dp cn).2.2.2) i))))] 59 [(0, .ref hM), (1, .int (nI ty)), (2, .int (oN o1)), (3, .int (nI k))] [.int (bI (decide ((mfO le sz cn lo hi dp cn).2.2.2 k = ty ∧ (ty = 0 ∨ mbw tx le ((mfO le sz cn lo hi dp cn).2.1 k) ty (sz ((mfO le sz cn lo hi dp cn).2.1 k)) ty = true))))] := by
          refine V_istore x 4 [(4, .int (bI (decide ((mfO le sz cn lo hi dp cn).2.2.2 k = ty ∧ (ty = 0 ∨ mbw tx le ((mfO le sz cn lo hi dp cn).2.1 k) ty (sz ((mfO le sz cn lo hi dp cn).2.1 k)) ty = true))))), (0, .ref hM), (1, .int (nI ty)), (2, .int (oN o1)), (3, .int (nI k))] dX7_alike_59 (by decide) rfl ?_
          refine V_iload x 4 dX7_alike_61 rfl ?_
          have J71 : V κ 0 0 [(hM, .inr (7, [.int (nI 0), .int (nI 0), .ref mTx, .int (nI wr), .ref mPg, .int (nI cn), .ref mLe, .ref mSz, .int (nI ((mfO le sz cn lo hi dp cn).1)), .ref mLo, .ref mHi, .ref mDp, .int (nI mn), .ref mFu, .ref mFv, .ref mRw, .ref mBl, .ref mWy, .ref mFe])), (mTx, .inl (cI, 60, .inl (fun i => nI (tx i)))), (mLe, .inl (cI, 217, .inl (fun i => nI (le i)))), (mSz, .inl (cI, 31, .inl (fun i => nI (sz i)))), (mLo, .inl (cI, 220, .inl (fun i => nI (((mfO le sz cn lo hi dp cn).2.1) i)))), (mHi, .inl (cI, 220, .inl (fun i => nI (((mfO le sz cn lo hi dp cn).2.2.1) i)))), (mDp, .inl (cI, 220, .inl (fun i => nI (((mfO le sz cn lo hi dp cn).2.2.2) i))))] 71 [(4, .int (bI (decide ((mfO le sz cn lo hi dp cn).2.2.2 k = ty ∧ (ty = 0 ∨ mbw tx le ((mfO le sz cn lo hi dp cn).2.1 k) ty (sz ((mfO le sz cn lo hi dp cn).2.1 k)) ty = true))))), (0, .ref hM), (1, .int (nI ty)), (2, .int (oN o1)), (3, .int (nI k))] [.int (oN (if (mfO le sz cn lo hi dp cn).2.2.2 k = ty ∧ (ty = 0 ∨ mbw tx le ((mfO le sz cn lo hi dp cn).2.1 k) ty (sz ((mfO le sz cn lo hi dp cn).2.1 k)) ty = true) then some k else o1))] := by
            refine V_istore_n x 2 [(2, .int (oN (if (mfO le sz cn lo hi dp cn).2.2.2 k = ty ∧ (ty = 0 ∨ mbw tx le ((mfO le sz cn lo hi dp cn).2.1 k) ty (sz ((mfO le sz cn lo hi dp cn).2.1 k)) ty = true) then some k else o1))), (4, .int (bI (decide ((mfO le sz cn lo hi dp cn).2.2.2 k = ty ∧ (ty = 0 ∨ mbw tx le ((mfO le sz cn lo hi dp cn).2.1 k) ty (sz ((mfO le sz cn lo hi dp cn).2.1 k)) ty = true))))), (0, .ref hM), (1, .int (nI ty)), (3, .int (nI k))] dX7_alike_71 rfl (by decide) rfl ?_
            refine V_iinc x 3 4 [(3, .int (nI (k + 1))), (2, .int (oN (if (mfO le sz cn lo hi dp cn).2.2.2 k = ty ∧ (ty = 0 ∨ mbw tx le ((mfO le sz cn lo hi dp cn).2.1 k) ty (sz ((mfO le sz cn lo hi dp cn).2.1 k)) ty = true) then some k else o1))), (4, .int (bI (decide ((mfO le sz cn lo hi dp cn).2.2.2 k = ty ∧ (ty = 0 ∨ mbw tx le ((mfO le sz cn lo hi dp cn).2.1 k) ty (sz ((mfO le sz cn lo hi dp cn).2.1 k)) ty = true))))), (0, .ref hM), (1, .int (nI ty))] dX7_alike_72 rfl (iinc_1 _) (by decide) rfl ?_
            refine V_goto x 18 dX7_alike_75 rfl ?_
            refine V.sub [3, 4, 1, 0] (lv' := [(0, .ref hM), (1, .int (nI ty)), (2, .int (oN ((if (mfO le sz cn lo hi dp cn).2.2.2 k = ty ∧ (ty = 0 ∨ mbw tx le ((mfO le sz cn lo hi dp cn).2.1 k) ty (sz ((mfO le sz cn lo hi dp cn).2.1 k)) ty = true) then some k else o1)))), (3, .int (nI ((k + 1))))]) rfl ?_
            exact ih18 ((mfO le sz cn lo hi dp cn).1 - (k + 1)) (by omega) (k + 1) (if (mfO le sz cn lo hi dp cn).2.2.2 k = ty ∧ (ty = 0 ∨ mbw tx le ((mfO le sz cn lo hi dp cn).2.1 k) ty (sz ((mfO le sz cn lo hi dp cn).2.1 k)) ty = true) then some k else o1) (by omega) (by rw [mow, e1]) rfl
          refine V_if_eqB x 70 dX7_alike_63 rfl (fun t63 => ?_) (fun f63 => ?_)
          · skip
            refine V_iload_n x 2 dX7_alike_70 rfl rfl ?_
            refine V.ci (x' := oN (if (mfO le sz cn lo hi dp cn).2.2.2 k = ty ∧ (ty = 0 ∨ mbw tx le ((mfO le sz cn lo hi dp cn).2.1 k) ty (sz ((mfO le sz cn lo hi dp cn).2.1 k)) ty = true) then some k else o1)) (by first | (rw [if_pos (of_decide_eq_true f63)]; rfl) | (rw [if_neg (of_decide_eq_false t63)])) ?_
            exact J71
          · skip
            refine V_iload_n x 3 dX7_alike_66 rfl rfl ?_
            refine V_goto x 71 dX7_alike_67 rfl ?_
            refine V.ci (x' := oN (if (mfO le sz cn lo hi dp cn).2.2.2 k = ty ∧ (ty = 0 ∨ mbw tx le ((mfO le sz cn lo hi dp cn).2.1 k) ty (sz ((mfO le sz cn lo hi dp cn).2.1 k)) ty = true) then some k else o1)) (by first | (rw [if_pos (of_decide_eq_true f63)]; rfl) | (rw [if_neg (of_decide_eq_false t63)])) ?_
            exact J71
        refine V_icmp_neN x 58 dX7_alike_33 rfl (fun t33 => ?_) (fun f33 => ?_) (by omega) (by omega)
        · skip
          refine V_iconst (v := nI 0) x dX7_alike_58 (by decide +kernel) ?_
          refine V.ci (x' := bI (decide ((mfO le sz cn lo hi dp cn).2.2.2 k = ty ∧ (ty = 0 ∨ mbw tx le ((mfO le sz cn lo hi dp cn).2.1 k) ty (sz ((mfO le sz cn lo hi dp cn).2.1 k)) ty = true)))) (by first | exact aj_1 t33 | exact aj_2 f33 t37 | exact aj_3 f37 t51 | exact aj_4 f33 f51) ?_
          exact J59
        · skip
          refine V_iload_n x 1 dX7_alike_36 rfl rfl ?_
          refine V_if_eqN x 54 dX7_alike_37 rfl (fun t37 => ?_) (fun f37 => ?_)
          · skip
            refine V_iconst (v := nI 1) x dX7_alike_54 (by decide +kernel) ?_
            refine V_goto x 59 dX7_alike_55 rfl ?_
            refine V.ci (x' := bI (decide ((mfO le sz cn lo hi dp cn).2.2.2 k = ty ∧ (ty = 0 ∨ mbw tx le ((mfO le sz cn lo hi dp cn).2.1 k) ty (sz ((mfO le sz cn lo hi dp cn).2.1 k)) ty = true)))) (by first | exact aj_1 t33 | exact aj_2 f33 t37 | exact aj_3 f37 t51 | exact aj_4 f33 f51) ?_
            exact J59
          · skip
            refine V_aload_n x 0 dX7_alike_40 rfl rfl ?_
            refine V_aload_n x 0 dX7_alike_41 rfl rfl ?_
            refine V_get x 0 7 9 hinX7 rfl rfl (by decide) flX7_22 rfl dX7_alike_42 ?_
            refine V_iload_n x 3 dX7_alike_45 rfl rfl ?_
            refine V_iald x 4 0 rfl rfl dX7_alike_46 (by omega) (by omega) ?_
            refine V_iload_n x 1 dX7_alike_47 rfl rfl ?_
            refine V_callVi x (m_beginsWith l D cI cZ cC cJ hM mTx mPg mLe mSz mLo mHi mDp mFu mFv mRw mBl mWy mFe 0 0 wr cn ((mfO le sz cn lo hi dp cn).1) mn tx le sz (((mfO le sz cn lo hi dp cn).2.1) k) ty hlk.1 (by first | omega | assumption) (by first | omega | assumption) (by first | omega | assumption) (by first | omega | assumption)) 2 (gdV mlX7_97 imX7_beginsWith seX7_beginsWith inX7 coX7_beginsWith) rfl hdX7_beginsWith ⟨Nat.le_of_ble_eq_true rfl, Nat.le_of_ble_eq_true rfl⟩ ⟨rfl, rfl⟩ 0 rfl rfl rfl [0, 1, 2, 3] [(hM, .inr (7, [.int (nI 0), .int (nI 0), .ref mTx, .int (nI wr), .ref mPg, .int (nI cn), .ref mLe, .ref mSz, .int (nI (((mfO le sz cn lo hi dp cn).1))), .ref mLo, .ref mHi, .ref mDp, .int (nI mn), .ref mFu, .ref mFv, .ref mRw, .ref mBl, .ref mWy, .ref mFe])), (mTx, .inl (cI, 60, .inl (fun i => nI (tx i)))), (mLe, .inl (cI, 217, .inl (fun i => nI (le i)))), (mSz, .inl (cI, 31, .inl (fun i => nI (sz i)))), (mLo, .inl (cI, 220, .inl (fun i => nI (((mfO le sz cn lo hi dp cn).2.1) i)))), (mHi, .inl (cI, 220, .inl (fun i => nI (((mfO le sz cn lo hi dp cn).2.2.1) i)))), (mDp, .inl (cI, 220, .inl (fun i => nI (((mfO le sz cn lo hi dp cn).2.2.2) i))))] rfl rfl [hM, mTx, mLe, mSz] rfl rfl [some 0, some 1, some 2, some 3] rfl rfl (rest := []) rfl (Nat.le_of_ble_eq_true rfl) dX7_alike_48 ⟨Nat.zero_le _, Nat.zero_le _⟩ ?_
            refine V_if_eqB x 58 dX7_alike_51 rfl (fun t51 => ?_) (fun f51 => ?_)
            · skip
              refine V_iconst (v := nI 0) x dX7_alike_58 (by decide +kernel) ?_
              refine V.ci (x' := bI (decide ((mfO le sz cn lo hi dp cn).2.2.2 k = ty ∧ (ty = 0 ∨ mbw tx le ((mfO le sz cn lo hi dp cn).2.1 k) ty (sz ((mfO le sz cn lo hi dp cn).2.1 k)) ty = true)))) (by first | exact aj_1 t33 | exact aj_2 f33 t37 | exact aj_3 f37 t51 | exact aj_4 f33 f51) ?_
              exact J59
            · skip
              refine V_iconst (v := nI 1) x dX7_alike_54 (by decide +kernel) ?_
              refine V_goto x 59 dX7_alike_55 rfl ?_
              refine V.ci (x' := bI (decide ((mfO le sz cn lo hi dp cn).2.2.2 k = ty ∧ (ty = 0 ∨ mbw tx le ((mfO le sz cn lo hi dp cn).2.1 k) ty (sz ((mfO le sz cn lo hi dp cn).2.1 k)) ty = true)))) (by first | exact aj_1 t33 | exact aj_2 f33 t37 | exact aj_3 f37 t51 | exact aj_4 f33 f51) ?_
              exact J59
  refine V.sub [3, 2, 1, 0] (lv' := [(0, .ref hM), (1, .int (nI ty)), (2, .int (oN none)), (3, .int (nI 0))]) rfl ?_
  exact L18 _ 0 none (by omega) rfl rfl
set_option maxHeartbeats 4000000 in
set_option maxRecDepth 100000 in
theorem m_split_no (l : Launch) (D : va_G) (cI cZ cC cJ : ClassId) (hM mTx mPg mLe mSz mLo mHi mDp mFu mFv mRw mBl mWy mFe : Nat) (ft : Nat) (ty : Nat) (wr : Nat) (cn : Nat) (pf : Nat) (mn : Nat) (tx : Nat → Nat) (le : Nat → Nat) (sz : Nat → Nat) (pg : Nat → Nat) (fe : Nat → Nat) (hty : ty ≤ 60) (hcn : cn ≤ 30) (htx : ∀ i, tx i < 65536) (hle : ∀ i, le i ≤ 8) (hsz : ∀ i, sz i ≤ 7) (hfe : ∀ i, fe i ≤ 100) (hh : 100 ≤ (mgO tx le sz cn ty fe ty) 0) : CI l yX7_split wsX7_split { frames := 3, cells := 0, slots := 0, locals := 70 } D vwCl (tys4 cI cZ cC cJ) [.ref hM] [(hM, .inr (7, [.int (nI ft), .int (nI ty), .ref mTx, .int (nI wr), .ref mPg, .int (nI cn), .ref mLe, .ref mSz, .int (nI pf), .ref mLo, .ref mHi, .ref mDp, .int (nI mn), .ref mFu, .ref mFv, .ref mRw, .ref mBl, .ref mWy, .ref mFe])), (mTx, .inl (cI, 60, .inl (fun i => nI (tx i)))), (mLe, .inl (cI, 217, .inl (fun i => nI (le i)))), (mSz, .inl (cI, 31, .inl (fun i => nI (sz i)))), (mPg, .inl (cI, 120, .inl (fun i => nI (pg i)))), (mFe, .inl (cI, 61, .inl (fun i => nI (fe i))))] ((-1)) [(hM, .inr (7, [.int (nI 0), .int (nI 0), .ref mTx, .int (nI wr), .ref mPg, .int (nI cn), .ref mLe, .ref mSz, .int (nI pf), .ref mLo, .ref mHi, .ref mDp, .int (nI mn), .ref mFu, .ref mFv, .ref mRw, .ref mBl, .ref mWy, .ref mFe])), (mTx, .inl (cI, 60, .inl (fun i => nI (tx i)))), (mLe, .inl (cI, 217, .inl (fun i => nI (le i)))), (mSz, .inl (cI, 31, .inl (fun i => nI (sz i)))), (mPg, .inl (cI, 120, .inl (fun i => nI (pg i)))), (mFe, .inl (cI, 61, .inl (fun i => nI (((mgO tx le sz cn ty fe ty)) i))))] := by
  refine CI.ofV rfl (by decide +kernel) rfl (Nat.le_of_ble_eq_true rfl) ?_
  intro κ x hret
  refine V_aload_n x 0 dX7_split_0 rfl rfl ?_
  refine V_iconst (v := nI 0) x dX7_split_1 (by decide +kernel) ?_
  refine V_put (ty := .int) x 0 7 0 [(hM, .inr (7, [.int (nI 0), .int (nI ty), .ref mTx, .int (nI wr), .ref mPg, .int (nI cn), .ref mLe, .ref mSz, .int (nI pf), .ref mLo, .ref mHi, .ref mDp, .int (nI mn), .ref mFu, .ref mFv, .ref mRw, .ref mBl, .ref mWy, .ref mFe])), (mTx, .inl (cI, 60, .inl (fun i => nI (tx i)))), (mLe, .inl (cI, 217, .inl (fun i => nI (le i)))), (mSz, .inl (cI, 31, .inl (fun i => nI (sz i)))), (mPg, .inl (cI, 120, .inl (fun i => nI (pg i)))), (mFe, .inl (cI, 61, .inl (fun i => nI (fe i))))] hinX7 tyX7 tyX7_ok nmX7 rfl rfl (by decide) flX7_50 rfl (by decide +kernel) rfl rfl (Nat.le_of_ble_eq_true rfl) rfl dX7_split_2 ?_
  refine V_aload_n x 0 dX7_split_5 rfl rfl ?_
  refine V_callVi x (m_take l D cI cZ cC cJ hM mTx mPg mLe mSz mLo mHi mDp mFu mFv mRw mBl mWy mFe 0 ty wr cn pf mn ) 0 (gdV mlX7_57 imX7_take seX7_take inX7 coX7_take) rfl hdX7_take ⟨Nat.le_of_ble_eq_true rfl, Nat.le_of_ble_eq_true rfl⟩ ⟨rfl, rfl⟩ 0 rfl rfl rfl [0] [(hM, .inr (7, [.int (nI 0), .int (nI 0), .ref mTx, .int (nI wr), .ref mPg, .int (nI cn), .ref mLe, .ref mSz, .int (nI pf), .ref mLo, .ref mHi, .ref mDp, .int (nI mn), .ref mFu, .ref mFv, .ref mRw, .ref mBl, .ref mWy, .ref mFe])), (mTx, .inl (cI, 60, .inl (fun i => nI (tx i)))), (mLe, .inl (cI, 217, .inl (fun i => nI (le i)))), (mSz, .inl (cI, 31, .inl (fun i => nI (sz i)))), (mPg, .inl (cI, 120, .inl (fun i => nI (pg i)))), (mFe, .inl (cI, 61, .inl (fun i => nI (fe i))))] rfl rfl [hM] rfl rfl [some 0] rfl rfl (rest := []) rfl (Nat.le_of_ble_eq_true rfl) dX7_split_6 ⟨Nat.zero_le _, Nat.zero_le _⟩ ?_
  refine V_istore_n x 1 [(1, .int (nI ty)), (0, .ref hM)] dX7_split_9 rfl (by decide) rfl ?_
  refine V_aload_n x 0 dX7_split_10 rfl rfl ?_
  refine V_get x 0 7 18 hinX7 rfl rfl (by decide) flX7_47 rfl dX7_split_11 ?_
  refine V_iload_n x 1 dX7_split_14 rfl rfl ?_
  refine V_iconst (v := nI 0) x dX7_split_15 (by decide +kernel) ?_
  refine V_iast x 5 0 nI fe 0 [(hM, .inr (7, [.int (nI 0), .int (nI 0), .ref mTx, .int (nI wr), .ref mPg, .int (nI cn), .ref mLe, .ref mSz, .int (nI pf), .ref mLo, .ref mHi, .ref mDp, .int (nI mn), .ref mFu, .ref mFv, .ref mRw, .ref mBl, .ref mWy, .ref mFe])), (mTx, .inl (cI, 60, .inl (fun i => nI (tx i)))), (mLe, .inl (cI, 217, .inl (fun i => nI (le i)))), (mSz, .inl (cI, 31, .inl (fun i => nI (sz i)))), (mPg, .inl (cI, 120, .inl (fun i => nI (pg i)))), (mFe, .inl (cI, 61, .inl (fun i => nI ((va_up fe ty 0) i))))] rfl rfl dX7_split_16 (by omega) (by omega) rfl ?_
  refine V_iload_n x 1 dX7_split_17 rfl rfl ?_
  refine V_iconst (v := nI 1) x dX7_split_18 (by decide +kernel) ?_
  refine V_isub x (oN (prd ty)) dX7_split_19 (prd_sub _) ?_
  refine V_istore_n x 2 [(2, .int (oN (prd ty))), (1, .int (nI ty)), (0, .ref hM)] dX7_split_20 rfl (by decide) rfl ?_
  have L21 : ∀ (k21 : Nat) (k : Nat) (f1 : Nat → Nat) (hk : k ≤ ty) (hf1 : ∀ i, f1 i ≤ 100) (e1 : mgO tx le sz cn ty fe (ty - k) = f1) (hk21 : k = k21), V κ 0 0 [(hM, .inr (7, [.int (nI 0), .int (nI 0), .ref mTx, .int (nI wr), .ref mPg, .int (nI cn), .ref mLe, .ref mSz, .int (nI pf), .ref mLo, .ref mHi, .ref mDp, .int (nI mn), .ref mFu, .ref mFv, .ref mRw, .ref mBl, .ref mWy, .ref mFe])), (mTx, .inl (cI, 60, .inl (fun i => nI (tx i)))), (mLe, .inl (cI, 217, .inl (fun i => nI (le i)))), (mSz, .inl (cI, 31, .inl (fun i => nI (sz i)))), (mPg, .inl (cI, 120, .inl (fun i => nI (pg i)))), (mFe, .inl (cI, 61, .inl (fun i => nI (f1 i))))] 21 [(0, .ref hM), (1, .int (nI ty)), (2, .int (oN (prd k)))] [] := by
    intro k21
    induction k21 using Nat.strongRecOn with
    | ind k21 ih21 =>
      intro k f1 hk hf1 e1 hk21
      refine V_iload_n x 2 dX7_split_21 rfl rfl ?_
      refine V_if_ltO x 125 dX7_split_22 rfl (fun z hz => by have := prd_some hz; omega) (fun t22 => ?_) (fun z22 f22 => ?_)
      · skip
        simp only [t22, oN_none]
        obtain rfl := prd_none t22
        rw [Nat.sub_zero] at e1
        have hx0 := hf1 0
        refine V_aload_n x 0 dX7_split_125 rfl rfl ?_
        refine V_get x 0 7 18 hinX7 rfl rfl (by decide) flX7_47 rfl dX7_split_126 ?_
        refine V_iconst (v := nI 0) x dX7_split_129 (by decide +kernel) ?_
        refine V_iald x 5 0 rfl rfl dX7_split_130 (by omega) (by omega) ?_
        refine V_bipush (v := nI 100) x dX7_split_131 (by decide +kernel) ?_
        refine V_icmp_ltN x 138 dX7_split_133 rfl (fun t133 => ?_) (fun f133 => ?_)
        · skip
          rw [e1] at hh; omega
        · skip
          refine V_iconst (v := (-1)) x dX7_split_136 (by decide +kernel) ?_
          rw [e1] at hret
          exact hret _ _ dX7_split_137
      · skip
        simp only [f22, oN_some]
        obtain rfl := prd_some f22
        refine V_aload_n x 0 dX7_split_25 rfl rfl ?_
        refine V_get x 0 7 18 hinX7 rfl rfl (by decide) flX7_47 rfl dX7_split_26 ?_
        refine V_iload_n x 2 dX7_split_29 rfl rfl ?_
        refine V_bipush (v := nI 100) x dX7_split_30 (by decide +kernel) ?_
        refine V_iast x 5 0 nI f1 100 [(hM, .inr (7, [.int (nI 0), .int (nI 0), .ref mTx, .int (nI wr), .ref mPg, .int (nI cn), .ref mLe, .ref mSz, .int (nI pf), .ref mLo, .ref mHi, .ref mDp, .int (nI mn), .ref mFu, .ref mFv, .ref mRw, .ref mBl, .ref mWy, .ref mFe])), (mTx, .inl (cI, 60, .inl (fun i => nI (tx i)))), (mLe, .inl (cI, 217, .inl (fun i => nI (le i)))), (mSz, .inl (cI, 31, .inl (fun i => nI (sz i)))), (mPg, .inl (cI, 120, .inl (fun i => nI (pg i)))), (mFe, .inl (cI, 61, .inl (fun i => nI ((va_up f1 z22 100) i))))] rfl rfl dX7_split_32 (by omega) (by omega) rfl ?_
        refine V_iconst (v := nI 1) x dX7_split_33 (by decide +kernel) ?_
        refine V_istore_n x 3 [(3, .int (nI 1)), (0, .ref hM), (1, .int (nI ty)), (2, .int (nI z22))] dX7_split_34 rfl (by decide) rfl ?_
        have L35 : ∀ (k35 : Nat) (j : Nat) (f2 : Nat → Nat) (hj : j ≤ 7 ∧ z22 + j ≤ ty) (e2 : mgI tx le sz cn z22 f1 j = f2) (hk35 : 7 - j = k35), V κ 0 0 [(hM, .inr (7, [.int (nI 0), .int (nI 0), .ref mTx, .int (nI wr), .ref mPg, .int (nI cn), .ref mLe, .ref mSz, .int (nI pf), .ref mLo, .ref mHi, .ref mDp, .int (nI mn), .ref mFu, .ref mFv, .ref mRw, .ref mBl, .ref mWy, .ref mFe])), (mTx, .inl (cI, 60, .inl (fun i => nI (tx i)))), (mLe, .inl (cI, 217, .inl (fun i => nI (le i)))), (mSz, .inl (cI, 31, .inl (fun i => nI (sz i)))), (mPg, .inl (cI, 120, .inl (fun i => nI (pg i)))), (mFe, .inl (cI, 61, .inl (fun i => nI (f2 i))))] 35 [(0, .ref hM), (1, .int (nI ty)), (2, .int (nI z22)), (3, .int (nI (j + 1)))] [] := by
          intro k35
          induction k35 using Nat.strongRecOn with
          | ind k35 ih35 =>
            intro j f2 hj e2 hk35
            refine V_iload_n x 3 dX7_split_35 rfl rfl ?_
            refine V_bipush (v := nI 7) x dX7_split_36 (by decide +kernel) ?_
            refine V_icmp_gtN x 119 dX7_split_38 rfl (fun t38 => ?_) (fun f38 => ?_)
            · skip
              refine V_iinc x 2 2 [(2, .int (oN (prd z22))), (0, .ref hM), (1, .int (nI ty)), (3, .int (nI (j + 1)))] dX7_split_119 rfl (prd_inc _) (by decide) rfl ?_
              refine V_goto x 21 dX7_split_122 rfl ?_
              refine V.sub [1, 2, 0] (lv' := [(0, .ref hM), (1, .int (nI ty)), (2, .int (oN (prd z22)))]) rfl ?_
              exact ih21 (z22) (by omega) z22 f2 (by omega) (by rw [← e2]; exact mgI_le hf1 (Nat.le_refl _) _) (by rw [mgO_step (by omega) e1, ← show j = min 7 (ty - z22) by omega, e2]) rfl
            · skip
              have hf2 := mgI_le (tx := tx) (le := le) (sz := sz) (cn := cn) (p := z22) hf1 (Nat.le_refl _) j
              rw [e2] at hf2
              have hx1 := hf2 (z22 + (j + 1))
              have hx2 := hf2 z22
              refine V_iload_n x 2 dX7_split_41 rfl rfl ?_
              refine V_iload_n x 3 dX7_split_42 rfl rfl ?_
              refine V_iadd x (nI (z22 + (j + 1))) dX7_split_43 (nI_add _ _) ?_
              refine V_iload_n x 1 dX7_split_44 rfl rfl ?_
              refine V_icmp_gtN x 119 dX7_split_45 rfl (fun t45 => ?_) (fun f45 => ?_)
              · skip
                refine V_iinc x 2 2 [(2, .int (oN (prd z22))), (0, .ref hM), (1, .int (nI ty)), (3, .int (nI (j + 1)))] dX7_split_119 rfl (prd_inc _) (by decide) rfl ?_
                refine V_goto x 21 dX7_split_122 rfl ?_
                refine V.sub [1, 2, 0] (lv' := [(0, .ref hM), (1, .int (nI ty)), (2, .int (oN (prd z22)))]) rfl ?_
                exact ih21 (z22) (by omega) z22 f2 (by omega) (by rw [← e2]; exact mgI_le hf1 (Nat.le_refl _) _) (by rw [mgO_step (by omega) e1, ← show j = min 7 (ty - z22) by omega, e2]) rfl
              · skip
                refine V_aload_n x 0 dX7_split_48 rfl rfl ?_
                refine V_iload_n x 2 dX7_split_49 rfl rfl ?_
                refine V_iload_n x 3 dX7_split_50 rfl rfl ?_
                refine V_callVi x (m_numberOf l D cI cZ cC cJ hM mTx mPg mLe mSz mLo mHi mDp mFu mFv mRw mBl mWy mFe 0 0 wr cn pf mn tx le sz z22 (j + 1) (by first | omega | assumption) (by first | omega | assumption) (by first | omega | assumption) (by first | omega | assumption) (by first | omega | assumption)) 2 (gdV mlX7_76 imX7_numberOf seX7_numberOf inX7 coX7_numberOf) rfl hdX7_numberOf ⟨Nat.le_of_ble_eq_true rfl, Nat.le_of_ble_eq_true rfl⟩ ⟨rfl, rfl⟩ 0 rfl rfl rfl [0, 1, 2, 3] [(hM, .inr (7, [.int (nI 0), .int (nI 0), .ref mTx, .int (nI wr), .ref mPg, .int (nI cn), .ref mLe, .ref mSz, .int (nI pf), .ref mLo, .ref mHi, .ref mDp, .int (nI mn), .ref mFu, .ref mFv, .ref mRw, .ref mBl, .ref mWy, .ref mFe])), (mTx, .inl (cI, 60, .inl (fun i => nI (tx i)))), (mLe, .inl (cI, 217, .inl (fun i => nI (le i)))), (mSz, .inl (cI, 31, .inl (fun i => nI (sz i)))), (mPg, .inl (cI, 120, .inl (fun i => nI (pg i)))), (mFe, .inl (cI, 61, .inl (fun i => nI (f2 i))))] rfl rfl [hM, mTx, mLe, mSz] rfl rfl [some 0, some 1, some 2, some 3] rfl rfl (rest := []) rfl (Nat.le_of_ble_eq_true rfl) dX7_split_51 ⟨Nat.zero_le _, Nat.zero_le _⟩ ?_
                have J81 : V κ 0 0 [(hM, .inr (7, [.int (nI 0), .int (nI 0), .ref mTx, .int (nI wr), .ref mPg, .int (nI cn), .ref mLe, .ref mSz, .int (nI pf), .ref mLo, .ref mHi, .ref mDp, .int (nI mn), .ref mFu, .ref mFv, .ref mRw, .ref mBl, .ref mWy, .ref mFe])), (mTx, .inl (cI, 60, .inl (fun i => nI (tx i)))), (mLe, .inl (cI, 217, .inl (fun i => nI (le i)))), (mSz, .inl (cI, 31, .inl (fun i => nI (sz i)))), (mPg, .inl (cI, 120, .inl (fun i => nI (pg i)))), (mFe, .inl (cI, 61, .inl (fun i => nI (f2 i))))] 81 [(0, .ref hM), (1, .int (nI ty)), (2, .int (nI z22)), (3, .int (nI (j + 1)))] [.int (bI (decide (mnb tx le sz cn z22 (j + 1) ≠ none ∧ f2 (z22 + (j + 1)) + 1 < f2 z22)))] := by
                  refine V_istore x 4 [(4, .int (bI (decide (mnb tx le sz cn z22 (j + 1) ≠ none ∧ f2 (z22 + (j + 1)) + 1 < f2 z22)))), (0, .ref hM), (1, .int (nI ty)), (2, .int (nI z22)), (3, .int (nI (j + 1)))] dX7_split_81 (by decide) rfl ?_
                  refine V_aload_n x 0 dX7_split_83 rfl rfl ?_
                  refine V_get x 0 7 18 hinX7 rfl rfl (by decide) flX7_47 rfl dX7_split_84 ?_
                  refine V_iload_n x 2 dX7_split_87 rfl rfl ?_
                  refine V_iload x 4 dX7_split_88 rfl ?_
                  have J112 : V κ 0 0 [(hM, .inr (7, [.int (nI 0), .int (nI 0), .ref mTx, .int (nI wr), .ref mPg, .int (nI cn), .ref mLe, .ref mSz, .int (nI pf), .ref mLo, .ref mHi, .ref mDp, .int (nI mn), .ref mFu, .ref mFv, .ref mRw, .ref mBl, .ref mWy, .ref mFe])), (mTx, .inl (cI, 60, .inl (fun i => nI (tx i)))), (mLe, .inl (cI, 217, .inl (fun i => nI (le i)))), (mSz, .inl (cI, 31, .inl (fun i => nI (sz i)))), (mPg, .inl (cI, 120, .inl (fun i => nI (pg i)))), (mFe, .inl (cI, 61, .inl (fun i => nI (f2 i))))] 112 [(4, .int (bI (decide (mnb tx le sz cn z22 (j + 1) ≠ none ∧ f2 (z22 + (j + 1)) + 1 < f2 z22)))), (0, .ref hM), (1, .int (nI ty)), (2, .int (nI z22)), (3, .int (nI (j + 1)))] [.int (nI (mgv (mnb tx le sz cn z22 (j + 1)) (f2 (z22 + (j + 1))) (f2 z22))), .int (nI z22), .ref mFe] := by
                    refine V_iast x 5 0 nI f2 (mgv (mnb tx le sz cn z22 (j + 1)) (f2 (z22 + (j + 1))) (f2 z22)) [(hM, .inr (7, [.int (nI 0), .int (nI 0), .ref mTx, .int (nI wr), .ref mPg, .int (nI cn), .ref mLe, .ref mSz, .int (nI pf), .ref mLo, .ref mHi, .ref mDp, .int (nI mn), .ref mFu, .ref mFv, .ref mRw, .ref mBl, .ref mWy, .ref mFe])), (mTx, .inl (cI, 60, .inl (fun i => nI (tx i)))), (mLe, .inl (cI, 217, .inl (fun i => nI (le i)))), (mSz, .inl (cI, 31, .inl (fun i => nI (sz i)))), (mPg, .inl (cI, 120, .inl (fun i => nI (pg i)))), (mFe, .inl (cI, 61, .inl (fun i => nI ((va_up f2 z22 (mgv (mnb tx le sz cn z22 (j + 1)) (f2 (z22 + (j + 1))) (f2 z22))) i))))] rfl rfl dX7_split_112 (by omega) (by omega) rfl ?_
                    refine V_iinc x 3 4 [(3, .int (nI ((j + 1) + 1))), (4, .int (bI (decide (mnb tx le sz cn z22 (j + 1) ≠ none ∧ f2 (z22 + (j + 1)) + 1 < f2 z22)))), (0, .ref hM), (1, .int (nI ty)), (2, .int (nI z22))] dX7_split_113 rfl (iinc_1 _) (by decide) rfl ?_
                    refine V_goto x 35 dX7_split_116 rfl ?_
                    refine V.sub [2, 3, 4, 0] (lv' := [(0, .ref hM), (1, .int (nI ty)), (2, .int (nI z22)), (3, .int (nI ((j + 1) + 1)))]) rfl ?_
                    exact ih35 (7 - (j + 1)) (by omega) (j + 1) (va_up f2 z22 (mgv (mnb tx le sz cn z22 (j + 1)) (f2 (z22 + (j + 1))) (f2 z22))) (by omega) (by rw [mgI, e2]) rfl
                  refine V_if_eqB x 106 dX7_split_90 rfl (fun t90 => ?_) (fun f90 => ?_)
                  · skip
                    refine V_aload_n x 0 dX7_split_106 rfl rfl ?_
                    refine V_get x 0 7 18 hinX7 rfl rfl (by decide) flX7_47 rfl dX7_split_107 ?_
                    refine V_iload_n x 2 dX7_split_110 rfl rfl ?_
                    refine V_iald x 5 0 rfl rfl dX7_split_111 (by omega) (by omega) ?_
                    refine V.ci (x' := nI (mgv (mnb tx le sz cn z22 (j + 1)) (f2 (z22 + (j + 1))) (f2 z22))) (by first | (rw [mgv_no (of_decide_eq_false t90)]; done) | (rw [mgv_yes (of_decide_eq_true f90)])) ?_
                    exact J112
                  · skip
                    refine V_aload_n x 0 dX7_split_93 rfl rfl ?_
                    refine V_get x 0 7 18 hinX7 rfl rfl (by decide) flX7_47 rfl dX7_split_94 ?_
                    refine V_iload_n x 2 dX7_split_97 rfl rfl ?_
                    refine V_iload_n x 3 dX7_split_98 rfl rfl ?_
                    refine V_iadd x (nI (z22 + (j + 1))) dX7_split_99 (nI_add _ _) ?_
                    refine V_iald x 5 0 rfl rfl dX7_split_100 (by omega) (by omega) ?_
                    refine V_iconst (v := nI 1) x dX7_split_101 (by decide +kernel) ?_
                    refine V_iadd x (nI ((f2 (z22 + (j + 1))) + 1)) dX7_split_102 (nI_add _ _) ?_
                    refine V_goto x 112 dX7_split_103 rfl ?_
                    refine V.ci (x' := nI (mgv (mnb tx le sz cn z22 (j + 1)) (f2 (z22 + (j + 1))) (f2 z22))) (by first | (rw [mgv_no (of_decide_eq_false t90)]; done) | (rw [mgv_yes (of_decide_eq_true f90)])) ?_
                    exact J112
                refine V_if_ltO x 80 dX7_split_54 rfl (fun z hz => by have := mnb_lt hz; omega) (fun t54 => ?_) (fun z54 f54 => ?_)
                · skip
                  refine V_iconst (v := nI 0) x dX7_split_80 (by decide +kernel) ?_
                  refine V.ci (x' := bI (decide (mnb tx le sz cn z22 (j + 1) ≠ none ∧ f2 (z22 + (j + 1)) + 1 < f2 z22))) (by first | exact sj_1 t54 | exact sj_2 t73 | exact sj_3 f54 f73) ?_
                  exact J81
                · skip
                  refine V_aload_n x 0 dX7_split_57 rfl rfl ?_
                  refine V_get x 0 7 18 hinX7 rfl rfl (by decide) flX7_47 rfl dX7_split_58 ?_
                  refine V_iload_n x 2 dX7_split_61 rfl rfl ?_
                  refine V_iload_n x 3 dX7_split_62 rfl rfl ?_
                  refine V_iadd x (nI (z22 + (j + 1))) dX7_split_63 (nI_add _ _) ?_
                  refine V_iald x 5 0 rfl rfl dX7_split_64 (by omega) (by omega) ?_
                  refine V_iconst (v := nI 1) x dX7_split_65 (by decide +kernel) ?_
                  refine V_iadd x (nI ((f2 (z22 + (j + 1))) + 1)) dX7_split_66 (nI_add _ _) ?_
                  refine V_aload_n x 0 dX7_split_67 rfl rfl ?_
                  refine V_get x 0 7 18 hinX7 rfl rfl (by decide) flX7_47 rfl dX7_split_68 ?_
                  refine V_iload_n x 2 dX7_split_71 rfl rfl ?_
                  refine V_iald x 5 0 rfl rfl dX7_split_72 (by omega) (by omega) ?_
                  refine V_icmp_geN x 80 dX7_split_73 rfl (fun t73 => ?_) (fun f73 => ?_)
                  · skip
                    refine V_iconst (v := nI 0) x dX7_split_80 (by decide +kernel) ?_
                    refine V.ci (x' := bI (decide (mnb tx le sz cn z22 (j + 1) ≠ none ∧ f2 (z22 + (j + 1)) + 1 < f2 z22))) (by first | exact sj_1 t54 | exact sj_2 t73 | exact sj_3 f54 f73) ?_
                    exact J81
                  · skip
                    refine V_iconst (v := nI 1) x dX7_split_76 (by decide +kernel) ?_
                    refine V_goto x 81 dX7_split_77 rfl ?_
                    refine V.ci (x' := bI (decide (mnb tx le sz cn z22 (j + 1) ≠ none ∧ f2 (z22 + (j + 1)) + 1 < f2 z22))) (by first | exact sj_1 t54 | exact sj_2 t73 | exact sj_3 f54 f73) ?_
                    exact J81
        refine V.sub [1, 2, 3, 0] (lv' := [(0, .ref hM), (1, .int (nI ty)), (2, .int (nI z22)), (3, .int (nI (0 + 1)))]) rfl ?_
        exact L35 _ 0 (va_up f1 z22 100) (by omega) rfl rfl
  refine V.sub [2, 1, 0] (lv' := [(0, .ref hM), (1, .int (nI ty)), (2, .int (oN (prd ty)))]) rfl ?_
  exact L21 _ ty (va_up fe ty 0) (by omega) (up_le hfe (Nat.le_refl _) (by omega)) (by rw [Nat.sub_self]; rfl) rfl
set_option maxHeartbeats 4000000 in
set_option maxRecDepth 100000 in
theorem m_split_yes (l : Launch) (D : va_G) (cI cZ cC cJ : ClassId) (hM mTx mPg mLe mSz mLo mHi mDp mFu mFv mRw mBl mWy mFe : Nat) (ft : Nat) (ty : Nat) (wr : Nat) (cn : Nat) (pf : Nat) (mn : Nat) (tx : Nat → Nat) (le : Nat → Nat) (sz : Nat → Nat) (pg : Nat → Nat) (fe : Nat → Nat) (hty : ty ≤ 60) (hcn : cn ≤ 30) (htx : ∀ i, tx i < 65536) (hle : ∀ i, le i ≤ 8) (hsz : ∀ i, sz i ≤ 7) (hfe : ∀ i, fe i ≤ 100) (hh : (mgO tx le sz cn ty fe ty) 0 < 100) (hex : ∀ p, p < ty → (mgO tx le sz cn ty fe ty) p < 100 → 1 ≤ mgk tx le sz cn ty (mgO tx le sz cn ty fe ty) p 7) (hszk : ∀ b k z, mnb tx le sz cn b k = some z → sz z = k) (hl1 : ∀ w, w < cn → ∀ k, k < sz w → 1 ≤ le (7 * w + k)) : CI l yX7_split wsX7_split { frames := 3, cells := 0, slots := 0, locals := 70 } D vwCl (tys4 cI cZ cC cJ) [.ref hM] [(hM, .inr (7, [.int (nI ft), .int (nI ty), .ref mTx, .int (nI wr), .ref mPg, .int (nI cn), .ref mLe, .ref mSz, .int (nI pf), .ref mLo, .ref mHi, .ref mDp, .int (nI mn), .ref mFu, .ref mFv, .ref mRw, .ref mBl, .ref mWy, .ref mFe])), (mTx, .inl (cI, 60, .inl (fun i => nI (tx i)))), (mLe, .inl (cI, 217, .inl (fun i => nI (le i)))), (mSz, .inl (cI, 31, .inl (fun i => nI (sz i)))), (mPg, .inl (cI, 120, .inl (fun i => nI (pg i)))), (mFe, .inl (cI, 61, .inl (fun i => nI (fe i))))] ((nI ((mgO tx le sz cn ty fe ty) 0))) [(hM, .inr (7, [.int (nI 0), .int (nI 0), .ref mTx, .int (nI ((mgW tx le sz cn ty (mgO tx le sz cn ty fe ty) pg ty).2.2)), .ref mPg, .int (nI cn), .ref mLe, .ref mSz, .int (nI pf), .ref mLo, .ref mHi, .ref mDp, .int (nI mn), .ref mFu, .ref mFv, .ref mRw, .ref mBl, .ref mWy, .ref mFe])), (mTx, .inl (cI, 60, .inl (fun i => nI (tx i)))), (mLe, .inl (cI, 217, .inl (fun i => nI (le i)))), (mSz, .inl (cI, 31, .inl (fun i => nI (sz i)))), (mPg, .inl (cI, 120, .inl (fun i => nI (((mgW tx le sz cn ty (mgO tx le sz cn ty fe ty) pg ty).2.1) i)))), (mFe, .inl (cI, 61, .inl (fun i => nI (((mgO tx le sz cn ty fe ty)) i))))] := by
  refine CI.ofV rfl (by decide +kernel) rfl (Nat.le_of_ble_eq_true rfl) ?_
  intro κ x hret
  refine V_aload_n x 0 dX7_split_0 rfl rfl ?_
  refine V_iconst (v := nI 0) x dX7_split_1 (by decide +kernel) ?_
  refine V_put (ty := .int) x 0 7 0 [(hM, .inr (7, [.int (nI 0), .int (nI ty), .ref mTx, .int (nI wr), .ref mPg, .int (nI cn), .ref mLe, .ref mSz, .int (nI pf), .ref mLo, .ref mHi, .ref mDp, .int (nI mn), .ref mFu, .ref mFv, .ref mRw, .ref mBl, .ref mWy, .ref mFe])), (mTx, .inl (cI, 60, .inl (fun i => nI (tx i)))), (mLe, .inl (cI, 217, .inl (fun i => nI (le i)))), (mSz, .inl (cI, 31, .inl (fun i => nI (sz i)))), (mPg, .inl (cI, 120, .inl (fun i => nI (pg i)))), (mFe, .inl (cI, 61, .inl (fun i => nI (fe i))))] hinX7 tyX7 tyX7_ok nmX7 rfl rfl (by decide) flX7_50 rfl (by decide +kernel) rfl rfl (Nat.le_of_ble_eq_true rfl) rfl dX7_split_2 ?_
  refine V_aload_n x 0 dX7_split_5 rfl rfl ?_
  refine V_callVi x (m_take l D cI cZ cC cJ hM mTx mPg mLe mSz mLo mHi mDp mFu mFv mRw mBl mWy mFe 0 ty wr cn pf mn ) 0 (gdV mlX7_57 imX7_take seX7_take inX7 coX7_take) rfl hdX7_take ⟨Nat.le_of_ble_eq_true rfl, Nat.le_of_ble_eq_true rfl⟩ ⟨rfl, rfl⟩ 0 rfl rfl rfl [0] [(hM, .inr (7, [.int (nI 0), .int (nI 0), .ref mTx, .int (nI wr), .ref mPg, .int (nI cn), .ref mLe, .ref mSz, .int (nI pf), .ref mLo, .ref mHi, .ref mDp, .int (nI mn), .ref mFu, .ref mFv, .ref mRw, .ref mBl, .ref mWy, .ref mFe])), (mTx, .inl (cI, 60, .inl (fun i => nI (tx i)))), (mLe, .inl (cI, 217, .inl (fun i => nI (le i)))), (mSz, .inl (cI, 31, .inl (fun i => nI (sz i)))), (mPg, .inl (cI, 120, .inl (fun i => nI (pg i)))), (mFe, .inl (cI, 61, .inl (fun i => nI (fe i))))] rfl rfl [hM] rfl rfl [some 0] rfl rfl (rest := []) rfl (Nat.le_of_ble_eq_true rfl) dX7_split_6 ⟨Nat.zero_le _, Nat.zero_le _⟩ ?_
  refine V_istore_n x 1 [(1, .int (nI ty)), (0, .ref hM)] dX7_split_9 rfl (by decide) rfl ?_
  refine V_aload_n x 0 dX7_split_10 rfl rfl ?_
  refine V_get x 0 7 18 hinX7 rfl rfl (by decide) flX7_47 rfl dX7_split_11 ?_
  refine V_iload_n x 1 dX7_split_14 rfl rfl ?_
  refine V_iconst (v := nI 0) x dX7_split_15 (by decide +kernel) ?_
  refine V_iast x 5 0 nI fe 0 [(hM, .inr (7, [.int (nI 0), .int (nI 0), .ref mTx, .int (nI wr), .ref mPg, .int (nI cn), .ref mLe, .ref mSz, .int (nI pf), .ref mLo, .ref mHi, .ref mDp, .int (nI mn), .ref mFu, .ref mFv, .ref mRw, .ref mBl, .ref mWy, .ref mFe])), (mTx, .inl (cI, 60, .inl (fun i => nI (tx i)))), (mLe, .inl (cI, 217, .inl (fun i => nI (le i)))), (mSz, .inl (cI, 31, .inl (fun i => nI (sz i)))), (mPg, .inl (cI, 120, .inl (fun i => nI (pg i)))), (mFe, .inl (cI, 61, .inl (fun i => nI ((va_up fe ty 0) i))))] rfl rfl dX7_split_16 (by omega) (by omega) rfl ?_
  refine V_iload_n x 1 dX7_split_17 rfl rfl ?_
  refine V_iconst (v := nI 1) x dX7_split_18 (by decide +kernel) ?_
  refine V_isub x (oN (prd ty)) dX7_split_19 (prd_sub _) ?_
  refine V_istore_n x 2 [(2, .int (oN (prd ty))), (1, .int (nI ty)), (0, .ref hM)] dX7_split_20 rfl (by decide) rfl ?_
  have L21 : ∀ (k21 : Nat) (k : Nat) (f1 : Nat → Nat) (hk : k ≤ ty) (hf1 : ∀ i, f1 i ≤ 100) (e1 : mgO tx le sz cn ty fe (ty - k) = f1) (hk21 : k = k21), V κ 0 0 [(hM, .inr (7, [.int (nI 0), .int (nI 0), .ref mTx, .int (nI wr), .ref mPg, .int (nI cn), .ref mLe, .ref mSz, .int (nI pf), .ref mLo, .ref mHi, .ref mDp, .int (nI mn), .ref mFu, .ref mFv, .ref mRw, .ref mBl, .ref mWy, .ref mFe])), (mTx, .inl (cI, 60, .inl (fun i => nI (tx i)))), (mLe, .inl (cI, 217, .inl (fun i => nI (le i)))), (mSz, .inl (cI, 31, .inl (fun i => nI (sz i)))), (mPg, .inl (cI, 120, .inl (fun i => nI (pg i)))), (mFe, .inl (cI, 61, .inl (fun i => nI (f1 i))))] 21 [(0, .ref hM), (1, .int (nI ty)), (2, .int (oN (prd k)))] [] := by
    intro k21
    induction k21 using Nat.strongRecOn with
    | ind k21 ih21 =>
      intro k f1 hk hf1 e1 hk21
      refine V_iload_n x 2 dX7_split_21 rfl rfl ?_
      refine V_if_ltO x 125 dX7_split_22 rfl (fun z hz => by have := prd_some hz; omega) (fun t22 => ?_) (fun z22 f22 => ?_)
      · skip
        simp only [t22, oN_none]
        obtain rfl := prd_none t22
        rw [Nat.sub_zero] at e1
        have hx0 := hf1 0
        refine V_aload_n x 0 dX7_split_125 rfl rfl ?_
        refine V_get x 0 7 18 hinX7 rfl rfl (by decide) flX7_47 rfl dX7_split_126 ?_
        refine V_iconst (v := nI 0) x dX7_split_129 (by decide +kernel) ?_
        refine V_iald x 5 0 rfl rfl dX7_split_130 (by omega) (by omega) ?_
        refine V_bipush (v := nI 100) x dX7_split_131 (by decide +kernel) ?_
        refine V_icmp_ltN x 138 dX7_split_133 rfl (fun t133 => ?_) (fun f133 => ?_)
        · skip
          refine V_aload_n x 0 dX7_split_138 rfl rfl ?_
          refine V_iconst (v := nI 0) x dX7_split_139 (by decide +kernel) ?_
          refine V_put (ty := .int) x 0 7 3 [(hM, .inr (7, [.int (nI 0), .int (nI 0), .ref mTx, .int (nI 0), .ref mPg, .int (nI cn), .ref mLe, .ref mSz, .int (nI pf), .ref mLo, .ref mHi, .ref mDp, .int (nI mn), .ref mFu, .ref mFv, .ref mRw, .ref mBl, .ref mWy, .ref mFe])), (mTx, .inl (cI, 60, .inl (fun i => nI (tx i)))), (mLe, .inl (cI, 217, .inl (fun i => nI (le i)))), (mSz, .inl (cI, 31, .inl (fun i => nI (sz i)))), (mPg, .inl (cI, 120, .inl (fun i => nI (pg i)))), (mFe, .inl (cI, 61, .inl (fun i => nI (f1 i))))] hinX7 tyX7 tyX7_ok nmX7 rfl rfl (by decide) flX7_87 rfl (by decide +kernel) rfl rfl (Nat.le_of_ble_eq_true rfl) rfl dX7_split_140 ?_
          refine V_iconst (v := nI 0) x dX7_split_143 (by decide +kernel) ?_
          refine V_istore_n x 2 [(2, .int (nI 0)), (0, .ref hM), (1, .int (nI ty))] dX7_split_144 rfl (by decide) rfl ?_
          have L145 : ∀ (k145 : Nat) (p : Nat) (pg1 : Nat → Nat) (w1 : Nat) (q : Nat) (hp : p ≤ ty) (hw1 : w1 ≤ 2 * p) (hfp : f1 p < 100) (hq : q ≤ p) (e5 : mgW tx le sz cn ty f1 pg q = (p, pg1, w1)) (hk145 : ty - p = k145), V κ 0 0 [(hM, .inr (7, [.int (nI 0), .int (nI 0), .ref mTx, .int (nI w1), .ref mPg, .int (nI cn), .ref mLe, .ref mSz, .int (nI pf), .ref mLo, .ref mHi, .ref mDp, .int (nI mn), .ref mFu, .ref mFv, .ref mRw, .ref mBl, .ref mWy, .ref mFe])), (mTx, .inl (cI, 60, .inl (fun i => nI (tx i)))), (mLe, .inl (cI, 217, .inl (fun i => nI (le i)))), (mSz, .inl (cI, 31, .inl (fun i => nI (sz i)))), (mPg, .inl (cI, 120, .inl (fun i => nI (pg1 i)))), (mFe, .inl (cI, 61, .inl (fun i => nI (f1 i))))] 145 [(0, .ref hM), (1, .int (nI ty)), (2, .int (nI p))] [] := by
            intro k145
            induction k145 using Nat.strongRecOn with
            | ind k145 ih145 =>
              intro p pg1 w1 q hp hw1 hfp hq e5 hk145
              refine V_iload_n x 2 dX7_split_145 rfl rfl ?_
              refine V_iload_n x 1 dX7_split_146 rfl rfl ?_
              refine V_icmp_geN x 221 dX7_split_147 rfl (fun t147 => ?_) (fun f147 => ?_)
              · skip
                refine V_aload_n x 0 dX7_split_221 rfl rfl ?_
                refine V_get x 0 7 18 hinX7 rfl rfl (by decide) flX7_47 rfl dX7_split_222 ?_
                refine V_iconst (v := nI 0) x dX7_split_225 (by decide +kernel) ?_
                refine V_iald x 5 0 rfl rfl dX7_split_226 (by omega) (by omega) ?_
                obtain rfl : p = ty := by omega
                rw [e1, mgW_end e5 hq] at hret
                exact hret _ _ dX7_split_227
              · skip
                have hex1 := hex p (by omega) (by rw [e1]; exact hfp)
                rw [e1] at hex1
                refine V_bipush (v := nI 7) x dX7_split_150 (by decide +kernel) ?_
                refine V_istore_n x 3 [(3, .int (nI 7)), (0, .ref hM), (1, .int (nI ty)), (2, .int (nI p))] dX7_split_152 rfl (by decide) rfl ?_
                have L153 : ∀ (k153 : Nat) (k : Nat) (hk7 : 1 ≤ k ∧ k ≤ 7) (e6 : mgk tx le sz cn ty f1 p k = mgk tx le sz cn ty f1 p 7) (hk153 : k = k153), V κ 0 0 [(hM, .inr (7, [.int (nI 0), .int (nI 0), .ref mTx, .int (nI w1), .ref mPg, .int (nI cn), .ref mLe, .ref mSz, .int (nI pf), .ref mLo, .ref mHi, .ref mDp, .int (nI mn), .ref mFu, .ref mFv, .ref mRw, .ref mBl, .ref mWy, .ref mFe])), (mTx, .inl (cI, 60, .inl (fun i => nI (tx i)))), (mLe, .inl (cI, 217, .inl (fun i => nI (le i)))), (mSz, .inl (cI, 31, .inl (fun i => nI (sz i)))), (mPg, .inl (cI, 120, .inl (fun i => nI (pg1 i)))), (mFe, .inl (cI, 61, .inl (fun i => nI (f1 i))))] 153 [(0, .ref hM), (1, .int (nI ty)), (2, .int (nI p)), (3, .int (nI k))] [] := by
                  intro k153
                  induction k153 using Nat.strongRecOn with
                  | ind k153 ih153 =>
                    intro k hk7 e6 hk153
                    refine V_iload_n x 2 dX7_split_153 rfl rfl ?_
                    refine V_iload_n x 3 dX7_split_154 rfl rfl ?_
                    refine V_iadd x (nI (p + k)) dX7_split_155 (nI_add _ _) ?_
                    refine V_iload_n x 1 dX7_split_156 rfl rfl ?_
                    refine V_icmp_gtN x 188 dX7_split_157 rfl (fun t157 => ?_) (fun f157 => ?_)
                    · skip
                      have hno : ¬ (p + k ≤ ty ∧ mnb tx le sz cn p k ≠ none ∧ f1 (p + k) + 1 = f1 p) := by
                        intro hq9
                        first
                        | exact absurd hq9.1 (by omega)
                        | exact hq9.2.1 t166
                        | exact f185 hq9.2.2
                      refine V_iinc x 3 3 [(3, .int (nI (k - 1))), (0, .ref hM), (1, .int (nI ty)), (2, .int (nI p))] dX7_split_188 rfl (iinc_m1 (by omega)) (by decide) rfl ?_
                      refine V_goto x 153 dX7_split_191 rfl ?_
                      refine V.sub [1, 2, 3, 0] (lv' := [(0, .ref hM), (1, .int (nI ty)), (2, .int (nI p)), (3, .int (nI ((k - 1))))]) rfl ?_
                      exact ih153 ((k - 1)) (by omega) (k - 1) (by have hq9 := mgk_no (k := k) hno (by omega); rw [e6] at hq9; refine ⟨?_, by omega⟩; rcases Nat.lt_or_ge 0 (k - 1) with h | h; (exact h); (rw [show k - 1 = 0 by omega] at hq9; rw [hq9] at hex1; exact absurd (show 1 ≤ 0 from hex1) (by decide))) (by rw [← e6, mgk_no hno (by omega)]) rfl
                    · skip
                      refine V_aload_n x 0 dX7_split_160 rfl rfl ?_
                      refine V_iload_n x 2 dX7_split_161 rfl rfl ?_
                      refine V_iload_n x 3 dX7_split_162 rfl rfl ?_
                      refine V_callVi x (m_numberOf l D cI cZ cC cJ hM mTx mPg mLe mSz mLo mHi mDp mFu mFv mRw mBl mWy mFe 0 0 w1 cn pf mn tx le sz p k (by first | omega | assumption) (by first | omega | assumption) (by first | omega | assumption) (by first | omega | assumption) (by first | omega | assumption)) 2 (gdV mlX7_76 imX7_numberOf seX7_numberOf inX7 coX7_numberOf) rfl hdX7_numberOf ⟨Nat.le_of_ble_eq_true rfl, Nat.le_of_ble_eq_true rfl⟩ ⟨rfl, rfl⟩ 0 rfl rfl rfl [0, 1, 2, 3] [(hM, .inr (7, [.int (nI 0), .int (nI 0), .ref mTx, .int (nI w1), .ref mPg, .int (nI cn), .ref mLe, .ref mSz, .int (nI pf), .ref mLo, .ref mHi, .ref mDp, .int (nI mn), .ref mFu, .ref mFv, .ref mRw, .ref mBl, .ref mWy, .ref mFe])), (mTx, .inl (cI, 60, .inl (fun i => nI (tx i)))), (mLe, .inl (cI, 217, .inl (fun i => nI (le i)))), (mSz, .inl (cI, 31, .inl (fun i => nI (sz i)))), (mPg, .inl (cI, 120, .inl (fun i => nI (pg1 i)))), (mFe, .inl (cI, 61, .inl (fun i => nI (f1 i))))] rfl rfl [hM, mTx, mLe, mSz] rfl rfl [some 0, some 1, some 2, some 3] rfl rfl (rest := []) rfl (Nat.le_of_ble_eq_true rfl) dX7_split_163 ⟨Nat.zero_le _, Nat.zero_le _⟩ ?_
                      refine V_if_ltO x 188 dX7_split_166 rfl (fun z hz => by have := mnb_lt hz; omega) (fun t166 => ?_) (fun z166 f166 => ?_)
                      · skip
                        have hno : ¬ (p + k ≤ ty ∧ mnb tx le sz cn p k ≠ none ∧ f1 (p + k) + 1 = f1 p) := by
                          intro hq9
                          first
                          | exact absurd hq9.1 (by omega)
                          | exact hq9.2.1 t166
                          | exact f185 hq9.2.2
                        refine V_iinc x 3 3 [(3, .int (nI (k - 1))), (0, .ref hM), (1, .int (nI ty)), (2, .int (nI p))] dX7_split_188 rfl (iinc_m1 (by omega)) (by decide) rfl ?_
                        refine V_goto x 153 dX7_split_191 rfl ?_
                        refine V.sub [1, 2, 3, 0] (lv' := [(0, .ref hM), (1, .int (nI ty)), (2, .int (nI p)), (3, .int (nI ((k - 1))))]) rfl ?_
                        exact ih153 ((k - 1)) (by omega) (k - 1) (by have hq9 := mgk_no (k := k) hno (by omega); rw [e6] at hq9; refine ⟨?_, by omega⟩; rcases Nat.lt_or_ge 0 (k - 1) with h | h; (exact h); (rw [show k - 1 = 0 by omega] at hq9; rw [hq9] at hex1; exact absurd (show 1 ≤ 0 from hex1) (by decide))) (by rw [← e6, mgk_no hno (by omega)]) rfl
                      · skip
                        have hx7 := hf1 (p + k)
                        have hx8 := hf1 p
                        refine V_aload_n x 0 dX7_split_169 rfl rfl ?_
                        refine V_get x 0 7 18 hinX7 rfl rfl (by decide) flX7_47 rfl dX7_split_170 ?_
                        refine V_iload_n x 2 dX7_split_173 rfl rfl ?_
                        refine V_iload_n x 3 dX7_split_174 rfl rfl ?_
                        refine V_iadd x (nI (p + k)) dX7_split_175 (nI_add _ _) ?_
                        refine V_iald x 5 0 rfl rfl dX7_split_176 (by omega) (by omega) ?_
                        refine V_iconst (v := nI 1) x dX7_split_177 (by decide +kernel) ?_
                        refine V_iadd x (nI ((f1 (p + k)) + 1)) dX7_split_178 (nI_add _ _) ?_
                        refine V_aload_n x 0 dX7_split_179 rfl rfl ?_
                        refine V_get x 0 7 18 hinX7 rfl rfl (by decide) flX7_47 rfl dX7_split_180 ?_
                        refine V_iload_n x 2 dX7_split_183 rfl rfl ?_
                        refine V_iald x 5 0 rfl rfl dX7_split_184 (by omega) (by omega) ?_
                        refine V_icmp_eqN x 194 dX7_split_185 rfl (fun t185 => ?_) (fun f185 => ?_)
                        · skip
                          have e9 : mgk tx le sz cn ty f1 p 7 = k := by
                            rw [← e6]
                            exact mgk_yes ⟨by omega, by rw [f166]; simp, t185⟩ hk7.1
                          have hz9 := mnb_lt f166
                          have hs9 := hszk _ _ _ f166
                          refine V_iload_n x 2 dX7_split_194 rfl rfl ?_
                          refine V_if_leN x 204 dX7_split_195 rfl (fun t195 => ?_) (fun f195 => ?_)
                          · skip
                            refine V_aload_n x 0 dX7_split_204 rfl rfl ?_
                            refine V_aload_n x 0 dX7_split_205 rfl rfl ?_
                            refine V_iload_n x 2 dX7_split_206 rfl rfl ?_
                            refine V_iload_n x 3 dX7_split_207 rfl rfl ?_
                            refine V_callVi x (m_numberOf l D cI cZ cC cJ hM mTx mPg mLe mSz mLo mHi mDp mFu mFv mRw mBl mWy mFe 0 0 w1 cn pf mn tx le sz p k (by first | omega | assumption) (by first | omega | assumption) (by first | omega | assumption) (by first | omega | assumption) (by first | omega | assumption)) 2 (gdV mlX7_76 imX7_numberOf seX7_numberOf inX7 coX7_numberOf) rfl hdX7_numberOf ⟨Nat.le_of_ble_eq_true rfl, Nat.le_of_ble_eq_true rfl⟩ ⟨rfl, rfl⟩ 0 rfl rfl rfl [0, 1, 2, 3] [(hM, .inr (7, [.int (nI 0), .int (nI 0), .ref mTx, .int (nI w1), .ref mPg, .int (nI cn), .ref mLe, .ref mSz, .int (nI pf), .ref mLo, .ref mHi, .ref mDp, .int (nI mn), .ref mFu, .ref mFv, .ref mRw, .ref mBl, .ref mWy, .ref mFe])), (mTx, .inl (cI, 60, .inl (fun i => nI (tx i)))), (mLe, .inl (cI, 217, .inl (fun i => nI (le i)))), (mSz, .inl (cI, 31, .inl (fun i => nI (sz i)))), (mPg, .inl (cI, 120, .inl (fun i => nI (pg1 i)))), (mFe, .inl (cI, 61, .inl (fun i => nI (f1 i))))] rfl rfl [hM, mTx, mLe, mSz] rfl rfl [some 0, some 1, some 2, some 3] rfl rfl (rest := [.ref hM]) rfl (Nat.le_of_ble_eq_true rfl) dX7_split_208 ⟨Nat.zero_le _, Nat.zero_le _⟩ ?_
                            refine V.ci (x' := nI z166) (by rw [f166]; rfl) ?_
                            refine V_callVv x (m_printWord l D cI cZ cC cJ hM mTx mPg mLe mSz mLo mHi mDp mFu mFv mRw mBl mWy mFe 0 0 w1 cn pf mn pg1 le sz z166 (by first | omega | assumption) (by first | omega | assumption) (by first | omega | assumption) (by rw [hs9]; omega) (hl1 _ hz9)) 1 (gdV mlX7_94 imX7_printWord seX7_printWord inX7 coX7_printWord) rfl hdX7_printWord ⟨Nat.le_of_ble_eq_true rfl, Nat.le_of_ble_eq_true rfl⟩ ⟨rfl, rfl⟩ 0 rfl rfl rfl [0, 4, 2, 3] [(hM, .inr (7, [.int (nI 0), .int (nI 0), .ref mTx, .int (nI (w1 + sz z166)), .ref mPg, .int (nI cn), .ref mLe, .ref mSz, .int (nI pf), .ref mLo, .ref mHi, .ref mDp, .int (nI mn), .ref mFu, .ref mFv, .ref mRw, .ref mBl, .ref mWy, .ref mFe])), (mTx, .inl (cI, 60, .inl (fun i => nI (tx i)))), (mLe, .inl (cI, 217, .inl (fun i => nI (le i)))), (mSz, .inl (cI, 31, .inl (fun i => nI (sz i)))), (mPg, .inl (cI, 120, .inl (fun i => nI ((mpr pg1 w1 le z166 (sz z166)) i)))), (mFe, .inl (cI, 61, .inl (fun i => nI (f1 i))))] rfl rfl [hM, mPg, mLe, mSz] rfl rfl [some 0, none, some 2, some 3, some 1] rfl rfl (rest := []) rfl (Nat.le_of_ble_eq_true rfl) dX7_split_211 ⟨Nat.zero_le _, Nat.zero_le _⟩ ?_
                            refine V_iload_n x 2 dX7_split_214 rfl rfl ?_
                            refine V_iload_n x 3 dX7_split_215 rfl rfl ?_
                            refine V_iadd x (nI (p + k)) dX7_split_216 (nI_add _ _) ?_
                            refine V_istore_n x 2 [(2, .int (nI (p + k))), (0, .ref hM), (1, .int (nI ty)), (3, .int (nI k))] dX7_split_217 rfl (by decide) rfl ?_
                            refine V_goto x 145 dX7_split_218 rfl ?_
                            refine V.sub [1, 2, 0] (lv' := [(0, .ref hM), (1, .int (nI ty)), (2, .int (nI ((p + k))))]) rfl ?_
                            exact ih145 (ty - (p + k)) (by omega) (p + k) (mpr pg1 w1 le z166 (sz z166)) (w1 + sz z166) (q + 1) (by omega) (by rw [hs9]; omega) (by omega) (by omega) (by rw [mgW, e5, mgP_eq (by omega) e9 f166]; first | (rw [if_pos f195]; done) | (rw [if_neg (by omega)])) rfl
                          · skip
                            refine V_aload_n x 0 dX7_split_198 rfl rfl ?_
                            refine V_bipush (v := nI 46) x dX7_split_199 (by decide +kernel) ?_
                            refine V_callVv x (m_print l D cI cZ cC cJ hM mTx mPg mLe mSz mLo mHi mDp mFu mFv mRw mBl mWy mFe 0 0 w1 cn pf mn pg1 46 (by first | omega | assumption)) 1 (gdV mlX7_90 imX7_print seX7_print inX7 coX7_print) rfl hdX7_print ⟨Nat.le_of_ble_eq_true rfl, Nat.le_of_ble_eq_true rfl⟩ ⟨rfl, rfl⟩ 0 rfl rfl rfl [0, 4] [(hM, .inr (7, [.int (nI 0), .int (nI 0), .ref mTx, .int (nI (w1 + 1)), .ref mPg, .int (nI cn), .ref mLe, .ref mSz, .int (nI pf), .ref mLo, .ref mHi, .ref mDp, .int (nI mn), .ref mFu, .ref mFv, .ref mRw, .ref mBl, .ref mWy, .ref mFe])), (mTx, .inl (cI, 60, .inl (fun i => nI (tx i)))), (mLe, .inl (cI, 217, .inl (fun i => nI (le i)))), (mSz, .inl (cI, 31, .inl (fun i => nI (sz i)))), (mPg, .inl (cI, 120, .inl (fun i => nI ((va_up pg1 w1 46) i)))), (mFe, .inl (cI, 61, .inl (fun i => nI (f1 i))))] rfl rfl [hM, mPg] rfl rfl [some 0, none, none, none, some 1] rfl rfl (rest := []) rfl (Nat.le_of_ble_eq_true rfl) dX7_split_201 ⟨Nat.zero_le _, Nat.zero_le _⟩ ?_
                            refine V_aload_n x 0 dX7_split_204 rfl rfl ?_
                            refine V_aload_n x 0 dX7_split_205 rfl rfl ?_
                            refine V_iload_n x 2 dX7_split_206 rfl rfl ?_
                            refine V_iload_n x 3 dX7_split_207 rfl rfl ?_
                            refine V_callVi x (m_numberOf l D cI cZ cC cJ hM mTx mPg mLe mSz mLo mHi mDp mFu mFv mRw mBl mWy mFe 0 0 (w1 + 1) cn pf mn tx le sz p k (by first | omega | assumption) (by first | omega | assumption) (by first | omega | assumption) (by first | omega | assumption) (by first | omega | assumption)) 2 (gdV mlX7_76 imX7_numberOf seX7_numberOf inX7 coX7_numberOf) rfl hdX7_numberOf ⟨Nat.le_of_ble_eq_true rfl, Nat.le_of_ble_eq_true rfl⟩ ⟨rfl, rfl⟩ 0 rfl rfl rfl [0, 1, 2, 3] [(hM, .inr (7, [.int (nI 0), .int (nI 0), .ref mTx, .int (nI ((w1 + 1))), .ref mPg, .int (nI cn), .ref mLe, .ref mSz, .int (nI pf), .ref mLo, .ref mHi, .ref mDp, .int (nI mn), .ref mFu, .ref mFv, .ref mRw, .ref mBl, .ref mWy, .ref mFe])), (mTx, .inl (cI, 60, .inl (fun i => nI (tx i)))), (mLe, .inl (cI, 217, .inl (fun i => nI (le i)))), (mSz, .inl (cI, 31, .inl (fun i => nI (sz i)))), (mPg, .inl (cI, 120, .inl (fun i => nI ((va_up pg1 w1 46) i)))), (mFe, .inl (cI, 61, .inl (fun i => nI (f1 i))))] rfl rfl [hM, mTx, mLe, mSz] rfl rfl [some 0, some 1, some 2, some 3] rfl rfl (rest := [.ref hM]) rfl (Nat.le_of_ble_eq_true rfl) dX7_split_208 ⟨Nat.zero_le _, Nat.zero_le _⟩ ?_
                            refine V.ci (x' := nI z166) (by rw [f166]; rfl) ?_
                            refine V_callVv x (m_printWord l D cI cZ cC cJ hM mTx mPg mLe mSz mLo mHi mDp mFu mFv mRw mBl mWy mFe 0 0 ((w1 + 1)) cn pf mn (va_up pg1 w1 46) le sz z166 (by first | omega | assumption) (by first | omega | assumption) (by first | omega | assumption) (by rw [hs9]; omega) (hl1 _ hz9)) 1 (gdV mlX7_94 imX7_printWord seX7_printWord inX7 coX7_printWord) rfl hdX7_printWord ⟨Nat.le_of_ble_eq_true rfl, Nat.le_of_ble_eq_true rfl⟩ ⟨rfl, rfl⟩ 0 rfl rfl rfl [0, 4, 2, 3] [(hM, .inr (7, [.int (nI 0), .int (nI 0), .ref mTx, .int (nI (((w1 + 1)) + sz z166)), .ref mPg, .int (nI cn), .ref mLe, .ref mSz, .int (nI pf), .ref mLo, .ref mHi, .ref mDp, .int (nI mn), .ref mFu, .ref mFv, .ref mRw, .ref mBl, .ref mWy, .ref mFe])), (mTx, .inl (cI, 60, .inl (fun i => nI (tx i)))), (mLe, .inl (cI, 217, .inl (fun i => nI (le i)))), (mSz, .inl (cI, 31, .inl (fun i => nI (sz i)))), (mPg, .inl (cI, 120, .inl (fun i => nI ((mpr (va_up pg1 w1 46) ((w1 + 1)) le z166 (sz z166)) i)))), (mFe, .inl (cI, 61, .inl (fun i => nI (f1 i))))] rfl rfl [hM, mPg, mLe, mSz] rfl rfl [some 0, none, some 2, some 3, some 1] rfl rfl (rest := []) rfl (Nat.le_of_ble_eq_true rfl) dX7_split_211 ⟨Nat.zero_le _, Nat.zero_le _⟩ ?_
                            refine V_iload_n x 2 dX7_split_214 rfl rfl ?_
                            refine V_iload_n x 3 dX7_split_215 rfl rfl ?_
                            refine V_iadd x (nI (p + k)) dX7_split_216 (nI_add _ _) ?_
                            refine V_istore_n x 2 [(2, .int (nI (p + k))), (0, .ref hM), (1, .int (nI ty)), (3, .int (nI k))] dX7_split_217 rfl (by decide) rfl ?_
                            refine V_goto x 145 dX7_split_218 rfl ?_
                            refine V.sub [1, 2, 0] (lv' := [(0, .ref hM), (1, .int (nI ty)), (2, .int (nI ((p + k))))]) rfl ?_
                            exact ih145 (ty - (p + k)) (by omega) (p + k) (mpr (va_up pg1 w1 46) ((w1 + 1)) le z166 (sz z166)) (((w1 + 1)) + sz z166) (q + 1) (by omega) (by rw [hs9]; omega) (by omega) (by omega) (by rw [mgW, e5, mgP_eq (by omega) e9 f166]; first | (rw [if_pos f195]; done) | (rw [if_neg (by omega)])) rfl
                        · skip
                          have hno : ¬ (p + k ≤ ty ∧ mnb tx le sz cn p k ≠ none ∧ f1 (p + k) + 1 = f1 p) := by
                            intro hq9
                            first
                            | exact absurd hq9.1 (by omega)
                            | exact hq9.2.1 t166
                            | exact f185 hq9.2.2
                          refine V_iinc x 3 3 [(3, .int (nI (k - 1))), (0, .ref hM), (1, .int (nI ty)), (2, .int (nI p))] dX7_split_188 rfl (iinc_m1 (by omega)) (by decide) rfl ?_
                          refine V_goto x 153 dX7_split_191 rfl ?_
                          refine V.sub [1, 2, 3, 0] (lv' := [(0, .ref hM), (1, .int (nI ty)), (2, .int (nI p)), (3, .int (nI ((k - 1))))]) rfl ?_
                          exact ih153 ((k - 1)) (by omega) (k - 1) (by have hq9 := mgk_no (k := k) hno (by omega); rw [e6] at hq9; refine ⟨?_, by omega⟩; rcases Nat.lt_or_ge 0 (k - 1) with h | h; (exact h); (rw [show k - 1 = 0 by omega] at hq9; rw [hq9] at hex1; exact absurd (show 1 ≤ 0 from hex1) (by decide))) (by rw [← e6, mgk_no hno (by omega)]) rfl
                refine V.sub [1, 2, 3, 0] (lv' := [(0, .ref hM), (1, .int (nI ty)), (2, .int (nI p)), (3, .int (nI 7))]) rfl ?_
                exact L153 _ 7 (by omega) rfl rfl
          refine V.sub [1, 2, 0] (lv' := [(0, .ref hM), (1, .int (nI ty)), (2, .int (nI 0))]) rfl ?_
          exact L145 _ 0 pg 0 0 (by omega) (by omega) (by omega) (by omega) rfl rfl
        · skip
          rw [e1] at hh; omega
      · skip
        simp only [f22, oN_some]
        obtain rfl := prd_some f22
        refine V_aload_n x 0 dX7_split_25 rfl rfl ?_
        refine V_get x 0 7 18 hinX7 rfl rfl (by decide) flX7_47 rfl dX7_split_26 ?_
        refine V_iload_n x 2 dX7_split_29 rfl rfl ?_
        refine V_bipush (v := nI 100) x dX7_split_30 (by decide +kernel) ?_
        refine V_iast x 5 0 nI f1 100 [(hM, .inr (7, [.int (nI 0), .int (nI 0), .ref mTx, .int (nI wr), .ref mPg, .int (nI cn), .ref mLe, .ref mSz, .int (nI pf), .ref mLo, .ref mHi, .ref mDp, .int (nI mn), .ref mFu, .ref mFv, .ref mRw, .ref mBl, .ref mWy, .ref mFe])), (mTx, .inl (cI, 60, .inl (fun i => nI (tx i)))), (mLe, .inl (cI, 217, .inl (fun i => nI (le i)))), (mSz, .inl (cI, 31, .inl (fun i => nI (sz i)))), (mPg, .inl (cI, 120, .inl (fun i => nI (pg i)))), (mFe, .inl (cI, 61, .inl (fun i => nI ((va_up f1 z22 100) i))))] rfl rfl dX7_split_32 (by omega) (by omega) rfl ?_
        refine V_iconst (v := nI 1) x dX7_split_33 (by decide +kernel) ?_
        refine V_istore_n x 3 [(3, .int (nI 1)), (0, .ref hM), (1, .int (nI ty)), (2, .int (nI z22))] dX7_split_34 rfl (by decide) rfl ?_
        have L35 : ∀ (k35 : Nat) (j : Nat) (f2 : Nat → Nat) (hj : j ≤ 7 ∧ z22 + j ≤ ty) (e2 : mgI tx le sz cn z22 f1 j = f2) (hk35 : 7 - j = k35), V κ 0 0 [(hM, .inr (7, [.int (nI 0), .int (nI 0), .ref mTx, .int (nI wr), .ref mPg, .int (nI cn), .ref mLe, .ref mSz, .int (nI pf), .ref mLo, .ref mHi, .ref mDp, .int (nI mn), .ref mFu, .ref mFv, .ref mRw, .ref mBl, .ref mWy, .ref mFe])), (mTx, .inl (cI, 60, .inl (fun i => nI (tx i)))), (mLe, .inl (cI, 217, .inl (fun i => nI (le i)))), (mSz, .inl (cI, 31, .inl (fun i => nI (sz i)))), (mPg, .inl (cI, 120, .inl (fun i => nI (pg i)))), (mFe, .inl (cI, 61, .inl (fun i => nI (f2 i))))] 35 [(0, .ref hM), (1, .int (nI ty)), (2, .int (nI z22)), (3, .int (nI (j + 1)))] [] := by
          intro k35
          induction k35 using Nat.strongRecOn with
          | ind k35 ih35 =>
            intro j f2 hj e2 hk35
            refine V_iload_n x 3 dX7_split_35 rfl rfl ?_
            refine V_bipush (v := nI 7) x dX7_split_36 (by decide +kernel) ?_
            refine V_icmp_gtN x 119 dX7_split_38 rfl (fun t38 => ?_) (fun f38 => ?_)
            · skip
              refine V_iinc x 2 2 [(2, .int (oN (prd z22))), (0, .ref hM), (1, .int (nI ty)), (3, .int (nI (j + 1)))] dX7_split_119 rfl (prd_inc _) (by decide) rfl ?_
              refine V_goto x 21 dX7_split_122 rfl ?_
              refine V.sub [1, 2, 0] (lv' := [(0, .ref hM), (1, .int (nI ty)), (2, .int (oN (prd z22)))]) rfl ?_
              exact ih21 (z22) (by omega) z22 f2 (by omega) (by rw [← e2]; exact mgI_le hf1 (Nat.le_refl _) _) (by rw [mgO_step (by omega) e1, ← show j = min 7 (ty - z22) by omega, e2]) rfl
            · skip
              have hf2 := mgI_le (tx := tx) (le := le) (sz := sz) (cn := cn) (p := z22) hf1 (Nat.le_refl _) j
              rw [e2] at hf2
              have hx1 := hf2 (z22 + (j + 1))
              have hx2 := hf2 z22
              refine V_iload_n x 2 dX7_split_41 rfl rfl ?_
              refine V_iload_n x 3 dX7_split_42 rfl rfl ?_
              refine V_iadd x (nI (z22 + (j + 1))) dX7_split_43 (nI_add _ _) ?_
              refine V_iload_n x 1 dX7_split_44 rfl rfl ?_
              refine V_icmp_gtN x 119 dX7_split_45 rfl (fun t45 => ?_) (fun f45 => ?_)
              · skip
                refine V_iinc x 2 2 [(2, .int (oN (prd z22))), (0, .ref hM), (1, .int (nI ty)), (3, .int (nI (j + 1)))] dX7_split_119 rfl (prd_inc _) (by decide) rfl ?_
                refine V_goto x 21 dX7_split_122 rfl ?_
                refine V.sub [1, 2, 0] (lv' := [(0, .ref hM), (1, .int (nI ty)), (2, .int (oN (prd z22)))]) rfl ?_
                exact ih21 (z22) (by omega) z22 f2 (by omega) (by rw [← e2]; exact mgI_le hf1 (Nat.le_refl _) _) (by rw [mgO_step (by omega) e1, ← show j = min 7 (ty - z22) by omega, e2]) rfl
              · skip
                refine V_aload_n x 0 dX7_split_48 rfl rfl ?_
                refine V_iload_n x 2 dX7_split_49 rfl rfl ?_
                refine V_iload_n x 3 dX7_split_50 rfl rfl ?_
                refine V_callVi x (m_numberOf l D cI cZ cC cJ hM mTx mPg mLe mSz mLo mHi mDp mFu mFv mRw mBl mWy mFe 0 0 wr cn pf mn tx le sz z22 (j + 1) (by first | omega | assumption) (by first | omega | assumption) (by first | omega | assumption) (by first | omega | assumption) (by first | omega | assumption)) 2 (gdV mlX7_76 imX7_numberOf seX7_numberOf inX7 coX7_numberOf) rfl hdX7_numberOf ⟨Nat.le_of_ble_eq_true rfl, Nat.le_of_ble_eq_true rfl⟩ ⟨rfl, rfl⟩ 0 rfl rfl rfl [0, 1, 2, 3] [(hM, .inr (7, [.int (nI 0), .int (nI 0), .ref mTx, .int (nI wr), .ref mPg, .int (nI cn), .ref mLe, .ref mSz, .int (nI pf), .ref mLo, .ref mHi, .ref mDp, .int (nI mn), .ref mFu, .ref mFv, .ref mRw, .ref mBl, .ref mWy, .ref mFe])), (mTx, .inl (cI, 60, .inl (fun i => nI (tx i)))), (mLe, .inl (cI, 217, .inl (fun i => nI (le i)))), (mSz, .inl (cI, 31, .inl (fun i => nI (sz i)))), (mPg, .inl (cI, 120, .inl (fun i => nI (pg i)))), (mFe, .inl (cI, 61, .inl (fun i => nI (f2 i))))] rfl rfl [hM, mTx, mLe, mSz] rfl rfl [some 0, some 1, some 2, some 3] rfl rfl (rest := []) rfl (Nat.le_of_ble_eq_true rfl) dX7_split_51 ⟨Nat.zero_le _, Nat.zero_le _⟩ ?_
                have J81 : V κ 0 0 [(hM, .inr (7, [.int (nI 0), .int (nI 0), .ref mTx, .int (nI wr), .ref mPg, .int (nI cn), .ref mLe, .ref mSz, .int (nI pf), .ref mLo, .ref mHi, .ref mDp, .int (nI mn), .ref mFu, .ref mFv, .ref mRw, .ref mBl, .ref mWy, .ref mFe])), (mTx, .inl (cI, 60, .inl (fun i => nI (tx i)))), (mLe, .inl (cI, 217, .inl (fun i => nI (le i)))), (mSz, .inl (cI, 31, .inl (fun i => nI (sz i)))), (mPg, .inl (cI, 120, .inl (fun i => nI (pg i)))), (mFe, .inl (cI, 61, .inl (fun i => nI (f2 i))))] 81 [(0, .ref hM), (1, .int (nI ty)), (2, .int (nI z22)), (3, .int (nI (j + 1)))] [.int (bI (decide (mnb tx le sz cn z22 (j + 1) ≠ none ∧ f2 (z22 + (j + 1)) + 1 < f2 z22)))] := by
                  refine V_istore x 4 [(4, .int (bI (decide (mnb tx le sz cn z22 (j + 1) ≠ none ∧ f2 (z22 + (j + 1)) + 1 < f2 z22)))), (0, .ref hM), (1, .int (nI ty)), (2, .int (nI z22)), (3, .int (nI (j + 1)))] dX7_split_81 (by decide) rfl ?_
                  refine V_aload_n x 0 dX7_split_83 rfl rfl ?_
                  refine V_get x 0 7 18 hinX7 rfl rfl (by decide) flX7_47 rfl dX7_split_84 ?_
                  refine V_iload_n x 2 dX7_split_87 rfl rfl ?_
                  refine V_iload x 4 dX7_split_88 rfl ?_
                  have J112 : V κ 0 0 [(hM, .inr (7, [.int (nI 0), .int (nI 0), .ref mTx, .int (nI wr), .ref mPg, .int (nI cn), .ref mLe, .ref mSz, .int (nI pf), .ref mLo, .ref mHi, .ref mDp, .int (nI mn), .ref mFu, .ref mFv, .ref mRw, .ref mBl, .ref mWy, .ref mFe])), (mTx, .inl (cI, 60, .inl (fun i => nI (tx i)))), (mLe, .inl (cI, 217, .inl (fun i => nI (le i)))), (mSz, .inl (cI, 31, .inl (fun i => nI (sz i)))), (mPg, .inl (cI, 120, .inl (fun i => nI (pg i)))), (mFe, .inl (cI, 61, .inl (fun i => nI (f2 i))))] 112 [(4, .int (bI (decide (mnb tx le sz cn z22 (j + 1) ≠ none ∧ f2 (z22 + (j + 1)) + 1 < f2 z22)))), (0, .ref hM), (1, .int (nI ty)), (2, .int (nI z22)), (3, .int (nI (j + 1)))] [.int (nI (mgv (mnb tx le sz cn z22 (j + 1)) (f2 (z22 + (j + 1))) (f2 z22))), .int (nI z22), .ref mFe] := by
                    refine V_iast x 5 0 nI f2 (mgv (mnb tx le sz cn z22 (j + 1)) (f2 (z22 + (j + 1))) (f2 z22)) [(hM, .inr (7, [.int (nI 0), .int (nI 0), .ref mTx, .int (nI wr), .ref mPg, .int (nI cn), .ref mLe, .ref mSz, .int (nI pf), .ref mLo, .ref mHi, .ref mDp, .int (nI mn), .ref mFu, .ref mFv, .ref mRw, .ref mBl, .ref mWy, .ref mFe])), (mTx, .inl (cI, 60, .inl (fun i => nI (tx i)))), (mLe, .inl (cI, 217, .inl (fun i => nI (le i)))), (mSz, .inl (cI, 31, .inl (fun i => nI (sz i)))), (mPg, .inl (cI, 120, .inl (fun i => nI (pg i)))), (mFe, .inl (cI, 61, .inl (fun i => nI ((va_up f2 z22 (mgv (mnb tx le sz cn z22 (j + 1)) (f2 (z22 + (j + 1))) (f2 z22))) i))))] rfl rfl dX7_split_112 (by omega) (by omega) rfl ?_
                    refine V_iinc x 3 4 [(3, .int (nI ((j + 1) + 1))), (4, .int (bI (decide (mnb tx le sz cn z22 (j + 1) ≠ none ∧ f2 (z22 + (j + 1)) + 1 < f2 z22)))), (0, .ref hM), (1, .int (nI ty)), (2, .int (nI z22))] dX7_split_113 rfl (iinc_1 _) (by decide) rfl ?_
                    refine V_goto x 35 dX7_split_116 rfl ?_
                    refine V.sub [2, 3, 4, 0] (lv' := [(0, .ref hM), (1, .int (nI ty)), (2, .int (nI z22)), (3, .int (nI ((j + 1) + 1)))]) rfl ?_
                    exact ih35 (7 - (j + 1)) (by omega) (j + 1) (va_up f2 z22 (mgv (mnb tx le sz cn z22 (j + 1)) (f2 (z22 + (j + 1))) (f2 z22))) (by omega) (by rw [mgI, e2]) rfl
                  refine V_if_eqB x 106 dX7_split_90 rfl (fun t90 => ?_) (fun f90 => ?_)
                  · skip
                    refine V_aload_n x 0 dX7_split_106 rfl rfl ?_
                    refine V_get x 0 7 18 hinX7 rfl rfl (by decide) flX7_47 rfl dX7_split_107 ?_
                    refine V_iload_n x 2 dX7_split_110 rfl rfl ?_
                    refine V_iald x 5 0 rfl rfl dX7_split_111 (by omega) (by omega) ?_
                    refine V.ci (x' := nI (mgv (mnb tx le sz cn z22 (j + 1)) (f2 (z22 + (j + 1))) (f2 z22))) (by first | (rw [mgv_no (of_decide_eq_false t90)]; done) | (rw [mgv_yes (of_decide_eq_true f90)])) ?_
                    exact J112
                  · skip
                    refine V_aload_n x 0 dX7_split_93 rfl rfl ?_
                    refine V_get x 0 7 18 hinX7 rfl rfl (by decide) flX7_47 rfl dX7_split_94 ?_
                    refine V_iload_n x 2 dX7_split_97 rfl rfl ?_
                    refine V_iload_n x 3 dX7_split_98 rfl rfl ?_
                    refine V_iadd x (nI (z22 + (j + 1))) dX7_split_99 (nI_add _ _) ?_
                    refine V_iald x 5 0 rfl rfl dX7_split_100 (by omega) (by omega) ?_
                    refine V_iconst (v := nI 1) x dX7_split_101 (by decide +kernel) ?_
                    refine V_iadd x (nI ((f2 (z22 + (j + 1))) + 1)) dX7_split_102 (nI_add _ _) ?_
                    refine V_goto x 112 dX7_split_103 rfl ?_
                    refine V.ci (x' := nI (mgv (mnb tx le sz cn z22 (j + 1)) (f2 (z22 + (j + 1))) (f2 z22))) (by first | (rw [mgv_no (of_decide_eq_false t90)]; done) | (rw [mgv_yes (of_decide_eq_true f90)])) ?_
                    exact J112
                refine V_if_ltO x 80 dX7_split_54 rfl (fun z hz => by have := mnb_lt hz; omega) (fun t54 => ?_) (fun z54 f54 => ?_)
                · skip
                  refine V_iconst (v := nI 0) x dX7_split_80 (by decide +kernel) ?_
                  refine V.ci (x' := bI (decide (mnb tx le sz cn z22 (j + 1) ≠ none ∧ f2 (z22 + (j + 1)) + 1 < f2 z22))) (by first | exact sj_1 t54 | exact sj_2 t73 | exact sj_3 f54 f73) ?_
                  exact J81
                · skip
                  refine V_aload_n x 0 dX7_split_57 rfl rfl ?_
                  refine V_get x 0 7 18 hinX7 rfl rfl (by decide) flX7_47 rfl dX7_split_58 ?_
                  refine V_iload_n x 2 dX7_split_61 rfl rfl ?_
                  refine V_iload_n x 3 dX7_split_62 rfl rfl ?_
                  refine V_iadd x (nI (z22 + (j + 1))) dX7_split_63 (nI_add _ _) ?_
                  refine V_iald x 5 0 rfl rfl dX7_split_64 (by omega) (by omega) ?_
                  refine V_iconst (v := nI 1) x dX7_split_65 (by decide +kernel) ?_
                  refine V_iadd x (nI ((f2 (z22 + (j + 1))) + 1)) dX7_split_66 (nI_add _ _) ?_
                  refine V_aload_n x 0 dX7_split_67 rfl rfl ?_
                  refine V_get x 0 7 18 hinX7 rfl rfl (by decide) flX7_47 rfl dX7_split_68 ?_
                  refine V_iload_n x 2 dX7_split_71 rfl rfl ?_
                  refine V_iald x 5 0 rfl rfl dX7_split_72 (by omega) (by omega) ?_
                  refine V_icmp_geN x 80 dX7_split_73 rfl (fun t73 => ?_) (fun f73 => ?_)
                  · skip
                    refine V_iconst (v := nI 0) x dX7_split_80 (by decide +kernel) ?_
                    refine V.ci (x' := bI (decide (mnb tx le sz cn z22 (j + 1) ≠ none ∧ f2 (z22 + (j + 1)) + 1 < f2 z22))) (by first | exact sj_1 t54 | exact sj_2 t73 | exact sj_3 f54 f73) ?_
                    exact J81
                  · skip
                    refine V_iconst (v := nI 1) x dX7_split_76 (by decide +kernel) ?_
                    refine V_goto x 81 dX7_split_77 rfl ?_
                    refine V.ci (x' := bI (decide (mnb tx le sz cn z22 (j + 1) ≠ none ∧ f2 (z22 + (j + 1)) + 1 < f2 z22))) (by first | exact sj_1 t54 | exact sj_2 t73 | exact sj_3 f54 f73) ?_
                    exact J81
        refine V.sub [1, 2, 3, 0] (lv' := [(0, .ref hM), (1, .int (nI ty)), (2, .int (nI z22)), (3, .int (nI (0 + 1)))]) rfl ?_
        exact L35 _ 0 (va_up f1 z22 100) (by omega) rfl rfl
  refine V.sub [2, 1, 0] (lv' := [(0, .ref hM), (1, .int (nI ty)), (2, .int (oN (prd ty)))]) rfl ?_
  exact L21 _ ty (va_up fe ty 0) (by omega) (up_le hfe (Nat.le_refl _) (by omega)) (by rw [Nat.sub_self]; rfl) rfl
