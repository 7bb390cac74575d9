/-! The law's loop; laid by prog/lay10.py -/
theorem iI_big {v : Int} (h1 : -2147483648 ≤ v) (h2 : v < 2147483648) : (iI v).toInt = v := by
  unfold iI
  rw [Int32.toInt_ofInt_of_le (by omega) (by omega)]
theorem not_02 {z : Int32} (h : nI 3 ≤ z) : ¬ z ≤ 2 := by
  intro q
  rw [Int32.le_iff_toInt_le] at h q
  rw [nI_toInt (by decide)] at h
  have : (2 : Int32).toInt = 2 := by decide
  omega
theorem not_01 {y : Int32} (h0 : ¬ y = nI 0) (h1 : ¬ y = nI 1) : ¬ (0 ≤ y ∧ y ≤ 1) := by
  rintro ⟨q1, q2⟩
  rw [Int32.le_iff_toInt_le] at q1 q2
  rw [← Int32.toInt_inj, nI_toInt (by decide)] at h0 h1
  have e0 : (0 : Int32).toInt = 0 := by decide
  have e1 : (1 : Int32).toInt = 1 := by decide
  omega
set_option maxHeartbeats 8000000 in
set_option maxRecDepth 100000 in
theorem law_loop {κ : Ku} {l : Launch} {rm : Room} {D : va_G} {cI cZ cC cJ : ClassId} (x : Cx κ l rm code 7 gw RL D vwCl (tys4 cI cZ cC cJ)) (hTk : Tk κ) (hl : l.stackTraces = false) (hfr : 9 ≤ rm.frames) (hlo : 340 ≤ rm.locals) {sb SL : Nat} {xs : Nat → Int32} (hX : Sx κ sb SL xs) (hSL : SL < 1000000) {c0 s0 : Nat} (hcr : c0 + (SL + 3) ≤ rm.cells ∧ s0 + 6 * (SL + 3) ≤ rm.slots) {hx hr ar h3 a3 h4 a4 ht tc tw tf tb tl ts tq ha sa sm sc sg sn ap hF fa fb hR ad hS sw1 sw2 sw3 hM mTx mPg mLe mSz mLo mHi mDp mFu mFv mRw mBl mWy mFe oo : Nat}
    (hret : ∀ (i : Nat) (ws : va_W) (lv : List (Nat × Value)), i ≤ SL + 2 → V κ (c0 + i) (s0 + 6 * i) ws 581 lv [.int (nI 1)]) :
    ∀ (k i : Nat), SL + 3 - i = k → i ≤ SL + 2 → ∀ {L : List (List Nat)} {tx : Nat → Nat} {n : Nat} {px : Nat → Nat} {n3 : Nat} {qx : Nat → Nat} {n4 : Nat} {ch : Nat → Option Nat} {wh : Nat → Bool} {hf : Nat → Nat} {hb : Nat → Nat} {ln : Nat → Nat} {sw : Nat → Option Nat} {od : Nat → Nat} {so : Nat → Nat} {mb : Nat → Nat} {ac : Nat → Bool} {tg : Nat → Option Nat} {wn : Nat → Option Nat} {pa : Nat → Nat} {fu : Nat → Nat} {fv : Nat → Nat} {fk : Nat} {ds : Nat → Nat} {wy : Nat → Int64} {fw : Nat → Option Nat} {fe : Nat → Nat} {ft : Nat} {cn : Nat} {pf : Nat} {pg : Nat → Nat} {le : Nat → Nat} {sz : Nat → Nat} {lo : Nat → Nat} {hi : Nat → Nat} {dp : Nat → Nat} {ro : Nat → Nat} {bl : Nat → Nat} {wz : Nat → Int64} {fz : Nat → Nat} {ov : Nat → Int64}, J L tx n px n3 qx ch wh hf hb ln sw od so mb ac tg wn pa fk ds fw fe cn pg le sz fz → V κ (c0 + i) (s0 + 6 * i) [(hx, .inr (6, [.ref hr, .ref h3, .ref h4, .ref ht, .ref ha, .ref hF, .ref hR, .ref hS])), (hr, .inr (2, [.ref ar, .int (nI n)])), (ar, .inl (cC, 60, .inl (fun i => nI (tx i)))), (h3, .inr (2, [.ref a3, .int (nI n3)])), (a3, .inl (cC, 119, .inl (fun i => nI (px i)))), (h4, .inr (2, [.ref a4, .int (nI n4)])), (a4, .inl (cC, 7, .inl (fun i => nI (qx i)))), (ht, .inr (5, [.ref tc, .ref tw, .ref tf, .ref tb, .ref tl, .ref ts, .ref tq])), (tc, .inl (cI, 1688, .inl (fun i => oN (ch i)))), (tw, .inl (cZ, 211, .inl (fun i => bI (wh i)))), (tf, .inl (cI, 211, .inl (fun i => nI (hf i)))), (tb, .inl (cI, 211, .inl (fun i => nI (hb i)))), (tl, .inl (cI, 211, .inl (fun i => nI (ln i)))), (ts, .inl (cI, 211, .inl (fun i => oN (sw i)))), (tq, .inl (cI, 211, .inl (fun i => nI (od i)))), (ha, .inr (0, [.ref sa, .ref sm, .ref sc, .ref sg, .ref sn, .ref ap])), (sa, .inl (cI, 211, .inl (fun i => nI (so i)))), (sm, .inl (cI, 211, .inl (fun i => nI (mb i)))), (sc, .inl (cZ, 211, .inl (fun i => bI (ac i)))), (sg, .inl (cI, 1688, .inl (fun i => oN (tg i)))), (sn, .inl (cI, 8, .inl (fun i => oN (wn i)))), (ap, .inl (cI, 8, .inl (fun i => nI (pa i)))), (hF, .inr (1, [.ref fa, .ref fb, .int (nI fk)])), (fa, .inl (cI, 420, .inl (fun i => nI (fu i)))), (fb, .inl (cI, 420, .inl (fun i => nI (fv i)))), (hR, .inr (3, [.ref ad])), (ad, .inl (cI, 8, .inl (fun i => nI (ds i)))), (hS, .inr (4, [.ref sw1, .ref sw2, .ref sw3])), (sw1, .inl (cJ, 61, .inr (.inl wy))), (sw2, .inl (cI, 61, .inl (fun i => oN (fw i)))), (sw3, .inl (cI, 61, .inl (fun i => nI (fe i)))), (hM, .inr (7, [.int (nI ft), .int (nI n), .ref mTx, .int (nI n3), .ref mPg, .int (nI cn), .ref mLe, .ref mSz, .int (nI pf), .ref mLo, .ref mHi, .ref mDp, .int (nI fk), .ref mFu, .ref mFv, .ref mRw, .ref mBl, .ref mWy, .ref mFe])), (mTx, .inl (cI, 60, .inl (fun i => nI (tx i)))), (mPg, .inl (cI, 120, .inl (fun i => nI (pg i)))), (mLe, .inl (cI, 217, .inl (fun i => nI (le i)))), (mSz, .inl (cI, 31, .inl (fun i => nI (sz i)))), (mLo, .inl (cI, 220, .inl (fun i => nI (lo i)))), (mHi, .inl (cI, 220, .inl (fun i => nI (hi i)))), (mDp, .inl (cI, 220, .inl (fun i => nI (dp i)))), (mFu, .inl (cI, 420, .inl (fun i => nI (fu i)))), (mFv, .inl (cI, 420, .inl (fun i => nI (fv i)))), (mRw, .inl (cI, 61, .inl (fun i => nI (ro i)))), (mBl, .inl (cI, 61, .inl (fun i => nI (bl i)))), (mWy, .inl (cJ, 61, .inr (.inl wz))), (mFe, .inl (cI, 61, .inl (fun i => nI (fz i)))), (oo, .inl (cJ, 1, .inr (.inl ov)))] 23 [(0, .ref sb), (1, .ref hx), (2, .ref hM), (3, .ref oo), (4, .int (nI i))] [] := by
  obtain ⟨hcr1, hcr2⟩ := hcr
  intro k
  induction k using Nat.strongRecOn with
  | ind k ih =>
    intro i hk hi L tx n px n3 qx n4 ch wh hf hb ln sw od so mb ac tg wn pa fu fv fk ds wy fw fe ft cn pf pg le sz lo hh dp ro bl wz fz ov hJ
    refine V_iload x 4 dL_law_23 rfl ?_
    refine V_aload_n x 0 dL_law_25 rfl rfl ?_
    refine V_slen x hX dL_law_26 ?_
    refine V_iconst (v := nI 3) x dL_law_27 (by decide +kernel) ?_
    refine V_isub x (iI ((SL : Int) - (3 : Nat))) dL_law_28 (iI_sub (by omega) (by omega)) ?_
    refine V_icmp_gt x 580 dL_law_29 rfl (fun _ => ?_) (fun f0 => ?_)
    · refine V_iconst (v := nI 1) x dL_law_580 (by decide +kernel) ?_
      exact hret i _ _ hi
    have hi3 : i + 3 ≤ SL := by
      rw [Int32.lt_iff_toInt_lt, iI_big (by omega) (by omega), nI_toInt (by omega)] at f0
      omega
    have hnext : ∀ (c s : Nat) (ws : va_W), V κ c s ws 23 [(0, .ref sb), (1, .ref hx), (2, .ref hM), (3, .ref oo), (4, .int (nI (i + 3)))] [] → V κ c s ws 574 [(0, .ref sb), (1, .ref hx), (2, .ref hM), (3, .ref oo), (4, .int (nI i))] [] := by
      intro c s ws h
      refine V_iinc x 4 4 [(4, .int (nI (i + 3))), (0, .ref sb), (1, .ref hx), (2, .ref hM), (3, .ref oo)] dL_law_574 rfl (by rw [show Int32.ofInt 3 = nI 3 by decide]; exact nI_add i 3) (by decide) rfl ?_
      refine V_goto x 23 dL_law_577 rfl ?_
      refine V.sub [1, 2, 3, 4, 0] (lv' := [(0, .ref sb), (1, .ref hx), (2, .ref hM), (3, .ref oo), (4, .int (nI (i + 3)))]) rfl ?_
      exact h
    obtain ⟨hcn1, hcn2, hcn3⟩ := hJ.cn_
    obtain ⟨hrg, hf30, hb1k, hl211, ho211, hsw, hmb⟩ := hJ.facts
    obtain ⟨⟨hn60, htx⟩, ⟨hT, hB, hL30⟩, ⟨S, hA, hNS⟩, ⟨hso, htg, hwn, hpa⟩, ⟨hM, hle, hsz⟩, ⟨hn3, hAg, hpx, hpg⟩, ⟨hqx, hfk, hds⟩, ⟨hfw, hfe, hfz⟩⟩ := id hJ
    have hs := hT.2.1
    have hw := hT.2.2.1
    have hf100 : ∀ i, hf i ≤ 100 := fun i => by have := hf30 i; omega
    have hf1k : ∀ i, hf i < 1000 := fun i => by have := hf30 i; omega
    have hmb5 : ∀ i, mb i ≤ 500 := fun i => by have := hmb i; omega
    have hmb1 : ∀ i, mb i < 1000 := fun i => by have := hmb i; omega
    have hcn30 : cn ≤ 30 := hcn3
    refine V_aload_n x 0 dL_law_32 rfl rfl ?_
    refine V_iload x 4 dL_law_33 rfl ?_
    refine V_sld x hX (by omega) (by omega) dL_law_35 ?_
    refine V_bipush (v := nI 31) x dL_law_36 (by decide +kernel) ?_
    refine V_iand x (nI ((xs i).toBitVec.toNat % 2 ^ 5)) dL_law_38 (pk_and (xs i) 5 (by decide)) ?_
    have hq32 : (xs i).toBitVec.toNat % 2 ^ 5 < 32 := Nat.mod_lt _ (by decide)
    generalize (xs i).toBitVec.toNat % 2 ^ 5 = q at hq32
    by_cases h0 : q = 0
    · subst h0
      refine V_tabIn x 128 dL_law_39 (by decide) (by decide) (by rfl) rfl ?_
      have hc : (xs (i + 1)).toBitVec.toNat % 65536 < 65536 := Nat.mod_lt _ (by decide)
      have hch := pk_char (xs (i + 1))
      generalize (xs (i + 1)).toBitVec.toNat % 65536 = c at hc hch
      by_cases hok : 32 ≤ c ∧ c ≤ 126 ∧ n < 60
      · refine lc_type_ok x hTk hl hfr hlo hX hi3 hSL ⟨by omega, by omega⟩ c hch hok.1 hok.2.1 hok.2.2 hok.1 hok.2.1 hok.2.2 rfl ?_
        refine hnext _ _ _ ?_
        refine V.widen (k := c0 + (i + 3)) (n := s0 + 6 * (i + 3)) (by omega) (by omega) ?_
        exact ih _ (by omega) (i + 3) rfl (by omega) (hJ.type hok.2.2 hc)
      · refine lc_type_no x hTk hl hfr hlo hX hi3 hSL ⟨by omega, by omega⟩ c hch hc hn60 hok hc hn60 hok rfl ?_
        refine hnext _ _ _ ?_
        refine V.widen (k := c0 + (i + 3)) (n := s0 + 6 * (i + 3)) (by omega) (by omega) ?_
        exact ih _ (by omega) (i + 3) rfl (by omega) hJ
    by_cases h1 : q = 1
    · subst h1
      refine V_tabIn x 155 dL_law_39 (by decide) (by decide) (by rfl) rfl ?_
      refine lc_wipe x hTk hl hfr hlo hX hi3 hSL ⟨by omega, by omega⟩ rfl ?_
      refine hnext _ _ _ ?_
      refine V.widen (k := c0 + (i + 3)) (n := s0 + 6 * (i + 3)) (by omega) (by omega) ?_
      exact ih _ (by omega) (i + 3) rfl (by omega) hJ.wipe
    by_cases h2 : q = 2
    · subst h2
      refine V_tabIn x 168 dL_law_39 (by decide) (by decide) (by rfl) rfl ?_
      by_cases h30 : cn = 30
      · refine lc_add_full x hTk hl hfr hlo hX hi3 hSL ⟨by omega, by omega⟩ (by omega) (by omega) h30 rfl ?_
        refine hnext _ _ _ ?_
        refine V.widen (k := c0 + (i + 3)) (n := s0 + 6 * (i + 3)) (by omega) (by omega) ?_
        exact ih _ (by omega) (i + 3) rfl (by omega) hJ
      have h30 : cn < 30 := by omega
      have hmiw : miw tx 0 n n = (alw tx n && decide (1 ≤ n ∧ n ≤ 7)) := by rw [miw_alw, alwF_0, Bool.and_comm]
      cases hw2 : (alw tx n && decide (1 ≤ n ∧ n ≤ 7)) with
      | false =>
        refine lc_add_no x hTk hl hfr hlo hX hi3 hSL ⟨by omega, by omega⟩ hrg hn60 htx (by omega) hw2 hn60 h30 htx (hmiw.trans hw2) rfl (va_up_self _ _ _) ?_
        refine hnext _ _ _ ?_
        refine V.widen (k := c0 + (i + 3)) (n := s0 + 6 * (i + 3)) (by omega) (by omega) ?_
        exact ih _ (by omega) (i + 3) rfl (by omega) hJ.wipe
      | true =>
        have hw3 := Bool.and_eq_true_iff.mp hw2
        have ha : alwF tx 0 n = true := by rw [alwF_0]; exact hw3.1
        have h17 : 1 ≤ n ∧ n ≤ 7 := of_decide_eq_true hw3.2
        by_cases hm : lts tx 0 n ∈ L
        · obtain ⟨z, hz⟩ := List.getElem?_of_mem hm
          have hnb : mnb tx le sz cn 0 n = some z := by rw [hM.nb hs hw]; unfold seg; rw [if_pos ha]; exact (idx_iff hs).mpr hz
          refine lc_add_had x hTk hl hfr hlo hX hi3 hSL ⟨by omega, by omega⟩ z hrg hn60 htx (by omega) hw2 (hJ.whH.mpr ⟨ha, hm⟩) hn60 h30 htx hle hsz (hmiw.trans hw2) hnb rfl (va_up_self _ _ _) ?_
          refine hnext _ _ _ ?_
          refine V.widen (k := c0 + (i + 3)) (n := s0 + 6 * (i + 3)) (by omega) (by omega) ?_
          exact ih _ (by omega) (i + 3) rfl (by omega) hJ.wipe
        · have hnb : mnb tx le sz cn 0 n = none := by rw [hM.nb hs hw]; unfold seg idx; rw [if_pos ha, if_neg hm]
          have hwf : whO wh (fwk ch tx n) = false := by
            cases q : whO wh (fwk ch tx n) with
            | false => rfl
            | true => exact absurd (hJ.whH.mp q).2 hm
          refine lc_add_new x hTk hl hfr hlo hX hi3 hSL ⟨by omega, by omega⟩ hrg hn60 htx hso htg hwn hmb5 hpa hl211 ho211 hf100 (hJ.hok ha h17.2) (by omega) hw2 hwf hn60 h30 htx hle hsz (hmiw.trans hw2) h17.2 hnb rfl (va_up_self _ _ _) ?_
          refine hnext _ _ _ ?_
          refine V.widen (k := c0 + (i + 3)) (n := s0 + 6 * (i + 3)) (by omega) (by omega) ?_
          exact ih _ (by omega) (i + 3) rfl (by omega) (hJ.add_new ha h17.1 h17.2 hm h30)
    by_cases h3 : q = 3
    · subst h3
      refine V_tabIn x 212 dL_law_39 (by decide) (by decide) (by rfl) rfl ?_
      by_cases hm : alwF tx 0 n = true ∧ lts tx 0 n ∈ L
      · obtain ⟨ha, hm⟩ := hm
        obtain ⟨z, hz⟩ := List.getElem?_of_mem hm
        have hnb : mnb tx le sz cn 0 n = some z := by rw [hM.nb hs hw]; unfold seg; rw [if_pos ha]; exact (idx_iff hs).mpr hz
        have h7 : n ≤ 7 := by
          have := (hw _ hm).2.1
          rw [lts_len] at this
          exact this
        have h0 : 1 ≤ hf 0 := by
          have := List.length_pos_of_mem hm
          omega
        refine lc_remove_yes x hTk hl hfr hlo hX hi3 hSL ⟨by omega, by omega⟩ z hrg hn60 htx hso htg hwn hmb5 hpa hl211 ho211 (fun k hk => ?_) hf100 (hJ.hok ha h7) h0 (CP.ok hT.1 hm) (hJ.whH.mpr ⟨ha, hm⟩) hn60 hcn30 htx hle hsz hnb rfl ?_
        · obtain ⟨q, hq⟩ := alwF_ltr ha hk
          rw [Nat.zero_add] at hq
          rw [hq]
          simp
        refine hnext _ _ _ ?_
        refine V.widen (k := c0 + (i + 3)) (n := s0 + 6 * (i + 3)) (by omega) (by omega) ?_
        exact ih _ (by omega) (i + 3) rfl (by omega) (hJ.remove ha h7 hz)
      · have hnb : mnb tx le sz cn 0 n = none := by
          rw [hM.nb hs hw]
          unfold seg idx
          by_cases ha : alwF tx 0 n = true
          · rw [if_pos ha, if_neg (fun q => hm ⟨ha, q⟩)]
          · rw [if_neg ha]
        have hwf : whO wh (fwk ch tx n) = false := by
          cases q : whO wh (fwk ch tx n) with
          | false => rfl
          | true => exact absurd (hJ.whH.mp q) hm
        refine lc_remove_no x hTk hl hfr hlo hX hi3 hSL ⟨by omega, by omega⟩ hrg hn60 htx hwf hn60 hcn30 htx hle hsz hnb rfl ?_
        refine hnext _ _ _ ?_
        refine V.widen (k := c0 + (i + 3)) (n := s0 + 6 * (i + 3)) (by omega) (by omega) ?_
        exact ih _ (by omega) (i + 3) rfl (by omega) hJ.wipe
    by_cases h4 : q = 4
    · subst h4
      refine V_tabIn x 225 dL_law_39 (by decide) (by decide) (by rfl) rfl ?_
      refine lc_words x hTk hl hfr hlo hX hi3 hSL ⟨by omega, by omega⟩ (by rw [hcn2]) ?_
      refine hnext _ _ _ ?_
      refine V.widen (k := c0 + (i + 3)) (n := s0 + 6 * (i + 3)) (by omega) (by omega) ?_
      exact ih _ (by omega) (i + 3) rfl (by omega) hJ
    by_cases h5 : q = 5
    · subst h5
      refine V_tabIn x 238 dL_law_39 (by decide) (by decide) (by rfl) rfl ?_
      rcases pk_ix (xs (i + 1)) (n := cn) (by omega) with h9 | h9 | ⟨j, hj, hz⟩
      · refine lc_word_no x hTk hl hfr hlo hX hi3 hSL ⟨by omega, by omega⟩ (fun q => absurd q.1 (Int32.not_le.mpr h9)) (fun q => absurd q.1 (Int32.not_le.mpr h9)) rfl ?_
        refine hnext _ _ _ ?_
        refine V.widen (k := c0 + (i + 3)) (n := s0 + 6 * (i + 3)) (by omega) (by omega) ?_
        exact ih _ (by omega) (i + 3) rfl (by omega) hJ
      · refine lc_word_no x hTk hl hfr hlo hX hi3 hSL ⟨by omega, by omega⟩ (fun q => absurd q.2 (by rw [hcn2]; exact Int32.not_lt.mpr h9)) (fun q => absurd q.2 (Int32.not_lt.mpr h9)) rfl ?_
        refine hnext _ _ _ ?_
        refine V.widen (k := c0 + (i + 3)) (n := s0 + 6 * (i + 3)) (by omega) (by omega) ?_
        exact ih _ (by omega) (i + 3) rfl (by omega) hJ
      · obtain ⟨e1, hJ2⟩ := hJ.word hj
        refine lc_word x hTk hl hfr hlo hX hi3 hSL ⟨by omega, by omega⟩ j hz hrg (by omega) (by omega) hb1k hf1k hj hcn30 hle hsz (hM.le1 j hj) rfl (by rw [va_up_self, e1]) ?_
        rw [e1]
        refine hnext _ _ _ ?_
        refine V.widen (k := c0 + (i + 3)) (n := s0 + 6 * (i + 3)) (by omega) (by omega) ?_
        exact ih _ (by omega) (i + 3) rfl (by omega) hJ2
    by_cases h6 : q = 6
    · subst h6
      refine V_tabIn x 294 dL_law_39 (by decide) (by decide) (by rfl) rfl ?_
      refine lc_rank x hTk hl hfr hlo hX hi3 hSL ⟨by omega, by omega⟩ hrg hn60 htx hn60 hcn30 htx hle hsz (by rw [hT.rank, hM.nb hs hw]) ?_
      refine hnext _ _ _ ?_
      refine V.widen (k := c0 + (i + 3)) (n := s0 + 6 * (i + 3)) (by omega) (by omega) ?_
      exact ih _ (by omega) (i + 3) rfl (by omega) hJ.wipe
    by_cases h7 : q = 7
    · subst h7
      refine V_tabIn x 307 dL_law_39 (by decide) (by decide) (by rfl) rfl ?_
      refine lc_starting x hTk hl hfr hlo hX hi3 hSL ⟨by omega, by omega⟩ hrg hn60 htx hn60 hcn30 htx hle hsz (by rw [hT.starting, hM.starting]) ?_
      refine hnext _ _ _ ?_
      refine V.widen (k := c0 + (i + 3)) (n := s0 + 6 * (i + 3)) (by omega) (by omega) ?_
      exact ih _ (by omega) (i + 3) rfl (by omega) hJ.wipe
    by_cases h8 : q = 8
    · subst h8
      refine V_tabIn x 320 dL_law_39 (by decide) (by decide) (by rfl) rfl ?_
      refine lc_longest x hTk hl hfr hlo hX hi3 hSL ⟨by omega, by omega⟩ hrg hn60 htx hn60 hcn30 htx hle hsz (by rw [hT.longest, hM.longest hs hw]) ?_
      refine hnext _ _ _ ?_
      refine V.widen (k := c0 + (i + 3)) (n := s0 + 6 * (i + 3)) (by omega) (by omega) ?_
      exact ih _ (by omega) (i + 3) rfl (by omega) hJ.wipe
    by_cases h9 : q = 9
    · subst h9
      refine V_tabIn x 333 dL_law_39 (by decide) (by decide) (by rfl) rfl ?_
      obtain ⟨v1, v2, v3⟩ := prefixes_ok hM hcn30 hs hT.1 hw hA hNS lo hh dp
      refine lc_states x hTk hl hfr hlo hX hi3 hSL ⟨by omega, by omega⟩ hmb1 hcn30 hle hsz v1 v2 (by rw [states_eq hM hcn30 hs hT.1 hw hA hNS lo hh dp]) ?_
      refine hnext _ _ _ ?_
      refine V.widen (k := c0 + (i + 3)) (n := s0 + 6 * (i + 3)) (by omega) (by omega) ?_
      exact ih _ (by omega) (i + 3) rfl (by omega) hJ
    by_cases h10 : q = 10
    · subst h10
      refine V_tabIn x 346 dL_law_39 (by decide) (by decide) (by rfl) rfl ?_
      obtain ⟨v1, v2, v3⟩ := prefixes_ok hM hcn30 hs hT.1 hw hA hNS lo hh dp
      refine lc_edges x hTk hl hfr hlo hX hi3 hSL ⟨by omega, by omega⟩ hmb1 htg hcn30 hle hsz v1 v2 (by rw [edges_eq hM hcn30 hs hT.1 hw hA hNS lo hh dp]) ?_
      refine hnext _ _ _ ?_
      refine V.widen (k := c0 + (i + 3)) (n := s0 + 6 * (i + 3)) (by omega) (by omega) ?_
      exact ih _ (by omega) (i + 3) rfl (by omega) hJ
    by_cases h11 : q = 11
    · subst h11
      refine V_tabIn x 359 dL_law_39 (by decide) (by decide) (by rfl) rfl ?_
      obtain ⟨v1, v2, v3⟩ := prefixes_ok hM hcn30 hs hT.1 hw hA hNS lo hh dp
      cases ho : mow tx le sz (mfO le sz cn lo hh dp cn).2.1 (mfO le sz cn lo hh dp cn).2.2.2 n (mfO le sz cn lo hh dp cn).1 with
      | none =>
        refine lc_alike_no x hTk hl hfr hlo hX hi3 hSL ⟨by omega, by omega⟩ hrg hn60 htx hso hn60 hcn30 htx hle hsz v1 v2 v3 ho (by rw [alike_no hM hcn30 hs hT.1 hw lo hh dp tx n ho]; rfl) ?_
        refine hnext _ _ _ ?_
        refine V.widen (k := c0 + (i + 3)) (n := s0 + 6 * (i + 3)) (by omega) (by omega) ?_
        exact ih _ (by omega) (i + 3) rfl (by omega) hJ.wipe
      | some z =>
        refine lc_alike_yes x hTk hl hfr hlo hX hi3 hSL ⟨by omega, by omega⟩ z hrg hn60 htx hso hn60 hcn30 htx hle hsz v1 v2 v3 ho (by rw [alike_yes hM hcn30 hs hT.1 hw hA hNS lo hh dp tx n z ho]; rfl) ?_
        refine hnext _ _ _ ?_
        refine V.widen (k := c0 + (i + 3)) (n := s0 + 6 * (i + 3)) (by omega) (by omega) ?_
        exact ih _ (by omega) (i + 3) rfl (by omega) hJ.wipe
    by_cases h12 : q = 12
    · subst h12
      refine V_tabIn x 372 dL_law_39 (by decide) (by decide) (by rfl) rfl ?_
      rcases pk_ix (xs (i + 1)) (n := 3) (by omega) with h9 | h9 | ⟨j, hj, hz⟩
      · refine lc_near_no x hTk hl hfr hlo hX hi3 hSL ⟨by omega, by omega⟩ (fun q => absurd q.1 (Int32.not_le.mpr h9)) (fun q => absurd q.1 (Int32.not_le.mpr h9)) rfl ?_
        refine hnext _ _ _ ?_
        refine V.widen (k := c0 + (i + 3)) (n := s0 + 6 * (i + 3)) (by omega) (by omega) ?_
        exact ih _ (by omega) (i + 3) rfl (by omega) hJ
      · refine lc_near_no x hTk hl hfr hlo hX hi3 hSL ⟨by omega, by omega⟩ (fun q => absurd q.2 (not_02 h9)) (fun q => absurd q.2 (not_02 h9)) rfl ?_
        refine hnext _ _ _ ?_
        refine V.widen (k := c0 + (i + 3)) (n := s0 + 6 * (i + 3)) (by omega) (by omega) ?_
        exact ih _ (by omega) (i + 3) rfl (by omega) hJ
      · obtain ⟨e1, hJ2⟩ := hJ.near (j := j) fu fv n4 ro bl
        refine lc_near x hTk hl hfr hlo hX hi3 hSL ⟨by omega, by omega⟩ j hz hrg hn60 htx (by omega) (by omega) hqx hds hb1k hf1k (by omega) hn60 hcn30 htx hle hsz rfl (by rw [va_up_self, e1]) ?_
        rw [← e1]
        refine hnext _ _ _ ?_
        refine V.widen (k := c0 + (i + 3)) (n := s0 + 6 * (i + 3)) (by omega) (by omega) ?_
        exact ih _ (by omega) (i + 3) rfl (by omega) hJ2
    by_cases h13 : q = 13
    · subst h13
      refine V_tabIn x 428 dL_law_39 (by decide) (by decide) (by rfl) rfl ?_
      obtain ⟨e1, hJ2⟩ := hJ.scan fu fv
      refine lc_scan x hTk hl hfr hlo hX hi3 hSL ⟨by omega, by omega⟩ hrg hn60 htx hsw hl211 hn60 hcn30 htx hle hsz (by rw [e1]) ?_
      rw [← e1]
      refine hnext _ _ _ ?_
      refine V.widen (k := c0 + (i + 3)) (n := s0 + 6 * (i + 3)) (by omega) (by omega) ?_
      exact ih _ (by omega) (i + 3) rfl (by omega) hJ2
    by_cases h14 : q = 14
    · subst h14
      refine V_tabIn x 441 dL_law_39 (by decide) (by decide) (by rfl) rfl ?_
      rcases pk_ix (xs (i + 1)) (n := fk) (by omega) with h9 | h9 | ⟨j, hj, hz⟩
      · refine lc_found_k x hTk hl hfr hlo hX hi3 hSL ⟨by omega, by omega⟩ (fun q => absurd q.1 (Int32.not_le.mpr h9)) (fun q => absurd q.1 (Int32.not_le.mpr h9)) rfl ?_
        refine hnext _ _ _ ?_
        refine V.widen (k := c0 + (i + 3)) (n := s0 + 6 * (i + 3)) (by omega) (by omega) ?_
        exact ih _ (by omega) (i + 3) rfl (by omega) hJ
      · refine lc_found_k x hTk hl hfr hlo hX hi3 hSL ⟨by omega, by omega⟩ (fun q => absurd q.2 (Int32.not_lt.mpr h9)) (fun q => absurd q.2 (Int32.not_lt.mpr h9)) rfl ?_
        refine hnext _ _ _ ?_
        refine V.widen (k := c0 + (i + 3)) (n := s0 + 6 * (i + 3)) (by omega) (by omega) ?_
        exact ih _ (by omega) (i + 3) rfl (by omega) hJ
      · by_cases y0 : xs (i + 2) = nI 0
        · refine lc_found0 x hTk hl hfr hlo hX hi3 hSL ⟨by omega, by omega⟩ j hz y0 hj hfk hj hfk rfl (va_up_self _ _ _) ?_
          refine hnext _ _ _ ?_
          refine V.widen (k := c0 + (i + 3)) (n := s0 + 6 * (i + 3)) (by omega) (by omega) ?_
          exact ih _ (by omega) (i + 3) rfl (by omega) hJ
        by_cases y1 : xs (i + 2) = nI 1
        · refine lc_found1 x hTk hl hfr hlo hX hi3 hSL ⟨by omega, by omega⟩ j hz y1 hj hfk hj hfk rfl (va_up_self _ _ _) ?_
          refine hnext _ _ _ ?_
          refine V.widen (k := c0 + (i + 3)) (n := s0 + 6 * (i + 3)) (by omega) (by omega) ?_
          exact ih _ (by omega) (i + 3) rfl (by omega) hJ
        refine lc_found_w x hTk hl hfr hlo hX hi3 hSL ⟨by omega, by omega⟩ j hz hj hfk (not_01 y0 y1) hj hfk (not_01 y0 y1) rfl ?_
        refine hnext _ _ _ ?_
        refine V.widen (k := c0 + (i + 3)) (n := s0 + 6 * (i + 3)) (by omega) (by omega) ?_
        exact ih _ (by omega) (i + 3) rfl (by omega) hJ
    by_cases h15 : q = 15
    · subst h15
      refine V_tabIn x 509 dL_law_39 (by decide) (by decide) (by rfl) rfl ?_
      refine lc_splits x hTk hl hfr hlo hX hi3 hSL ⟨by omega, by omega⟩ hrg hn60 htx hn60 hcn30 htx hle hsz (by rw [hT.ways tx n wy n (Nat.le_refl _) 0 (by omega) (by omega), hM.ways hs hw tx wz n n (Nat.le_refl _), Nat.sub_zero]) ?_
      refine hnext _ _ _ ?_
      refine V.widen (k := c0 + (i + 3)) (n := s0 + 6 * (i + 3)) (by omega) (by omega) ?_
      exact ih _ (by omega) (i + 3) rfl (by omega) hJ.wipe
    by_cases h16 : q = 16
    · subst h16
      refine V_tabIn x 523 dL_law_39 (by decide) (by decide) (by rfl) rfl ?_
      obtain ⟨g1, g2, g3, g4, g5, g6⟩ := split_ok hT hM tx hn60 fw fe fz hfw hfe
      have hfw3 : ∀ i z, fw i = some z → z ≤ 300 := fun i z h => by have := hfw i z h; omega
      cases hc : (chs ch wh tx n fw fe n).1 0 with
      | none =>
        refine lc_split_no x hTk hl hfr hlo hX hi3 hSL ⟨by omega, by omega⟩ hrg hn60 htx hfw3 hc hn60 hcn30 htx hle hsz hfz (by rw [g4, hc]; exact Nat.le_refl _) rfl ?_
        refine hnext _ _ _ ?_
        refine V.widen (k := c0 + (i + 3)) (n := s0 + 6 * (i + 3)) (by omega) (by omega) ?_
        exact ih _ (by omega) (i + 3) rfl (by omega) hJ.split_no
      | some r =>
        obtain ⟨r60, hq0⟩ := g5 r hc
        obtain ⟨e1, hJ2⟩ := hJ.split_yes hc
        refine lc_split_yes x hTk hl hfr hlo hX hi3 hSL ⟨by omega, by omega⟩ r hrg hn60 htx hfw3 hc (by omega) hq0 (fun i => by have := g2 i; omega) hn60 hcn30 htx hle hsz hfz (by rw [g4, hc]; show r < 100; omega) g3 (hM.szk hs hw tx) hM.le1 (by rw [g4, hc]; rfl) ?_
        rw [← e1]
        refine hnext _ _ _ ?_
        refine V.widen (k := c0 + (i + 3)) (n := s0 + 6 * (i + 3)) (by omega) (by omega) ?_
        exact ih _ (by omega) (i + 3) rfl (by omega) hJ2
    by_cases h17 : q = 17
    · subst h17
      refine V_tabIn x 536 dL_law_39 (by decide) (by decide) (by rfl) rfl ?_
      refine lc_length x hTk hl hfr hlo hX hi3 hSL ⟨by omega, by omega⟩ rfl ?_
      refine hnext _ _ _ ?_
      refine V.widen (k := c0 + (i + 3)) (n := s0 + 6 * (i + 3)) (by omega) (by omega) ?_
      exact ih _ (by omega) (i + 3) rfl (by omega) hJ
    by_cases h18 : q = 18
    · subst h18
      refine V_tabIn x 549 dL_law_39 (by decide) (by decide) (by rfl) rfl ?_
      rcases pk_ix (xs (i + 1)) (n := n3) (by omega) with h9 | h9 | ⟨j, hj, hz⟩
      · refine lc_charAtZ x hTk hl hfr hlo hX hi3 hSL ⟨by omega, by omega⟩ (fun q => absurd q.1 (Int32.not_le.mpr h9)) (fun q => absurd q.1 (Int32.not_le.mpr h9)) rfl ?_
        refine hnext _ _ _ ?_
        refine V.widen (k := c0 + (i + 3)) (n := s0 + 6 * (i + 3)) (by omega) (by omega) ?_
        exact ih _ (by omega) (i + 3) rfl (by omega) hJ
      · refine lc_charAtZ x hTk hl hfr hlo hX hi3 hSL ⟨by omega, by omega⟩ (fun q => absurd q.2 (Int32.not_lt.mpr h9)) (fun q => absurd q.2 (Int32.not_lt.mpr h9)) rfl ?_
        refine hnext _ _ _ ?_
        refine V.widen (k := c0 + (i + 3)) (n := s0 + 6 * (i + 3)) (by omega) (by omega) ?_
        exact ih _ (by omega) (i + 3) rfl (by omega) hJ
      · refine lc_charAt x hTk hl hfr hlo hX hi3 hSL ⟨by omega, by omega⟩ j hz hj hn3 hpx hj (by omega) hpg (by rw [hAg j hj]) ?_
        refine hnext _ _ _ ?_
        refine V.widen (k := c0 + (i + 3)) (n := s0 + 6 * (i + 3)) (by omega) (by omega) ?_
        exact ih _ (by omega) (i + 3) rfl (by omega) hJ
    refine V_tabOut x 574 dL_law_39 (Or.inr (by rw [nI_toInt (by omega)]; omega)) rfl ?_
    refine hnext _ _ _ ?_
    refine V.widen (k := c0 + (i + 3)) (n := s0 + 6 * (i + 3)) (by omega) (by omega) ?_
    exact ih _ (by omega) (i + 3) rfl (by omega) hJ
