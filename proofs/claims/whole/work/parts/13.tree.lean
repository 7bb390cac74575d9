/-! contracts, laid by prog/mk.py -/
set_option maxHeartbeats 4000000 in
set_option maxRecDepth 100000 in
theorem c_link (l : Launch) (D : va_G) (cI cZ cC cJ : ClassId) (ht tc tw tf tb tl ts tq : Nat) (ch : Nat → Option Nat) (wh : Nat → Bool) (hf : Nat → Nat) (hb : Nat → Nat) (ln : Nat → Nat) (sw : Nat → Option Nat) (od : Nat → Nat) (p : Nat) (s : Nat) (hp : p < 211) (hs : s < 211) : CV l yX5_link wsX5_link { frames := 0, cells := 0, slots := 0, locals := 0 } D vwCl (tys4 cI cZ cC cJ) [.ref ht, .int (nI p), .int (nI s)] [(ht, .inr (5, [.ref tc, .ref tw, .ref tf, .ref tb, .ref tl, .ref ts, .ref tq])), (tc, .inl (cI, 1688, .inl (fun i => oN (ch i)))), (tw, .inl (cZ, 211, .inl (fun i => bI (wh i)))), (tf, .inl (cI, 211, .inl (fun i => nI (hf i)))), (tb, .inl (cI, 211, .inl (fun i => nI (hb i)))), (tl, .inl (cI, 211, .inl (fun i => nI (ln i)))), (ts, .inl (cI, 211, .inl (fun i => oN (sw i)))), (tq, .inl (cI, 211, .inl (fun i => nI (od i))))] [(ht, .inr (5, [.ref tc, .ref tw, .ref tf, .ref tb, .ref tl, .ref ts, .ref tq])), (tc, .inl (cI, 1688, .inl (fun i => oN (ch i)))), (tw, .inl (cZ, 211, .inl (fun i => bI (wh i)))), (tf, .inl (cI, 211, .inl (fun i => nI (hf i)))), (tb, .inl (cI, 211, .inl (fun i => nI (hb i)))), (tl, .inl (cI, 211, .inl (fun i => nI ((va_up ln p s) i)))), (ts, .inl (cI, 211, .inl (fun i => oN ((va_up sw p (if wh s then some s else sw s)) i)))), (tq, .inl (cI, 211, .inl (fun i => nI (od i))))] := by
  refine CV.ofV (by decide +kernel) rfl (Nat.le_of_ble_eq_true rfl) ?_
  intro κ x hret
  refine V_aload_n x 0 dX5_link_0 rfl rfl ?_
  refine V_get x 0 5 4 hinX5 rfl rfl (by decide) flX5_25 rfl dX5_link_1 ?_
  refine V_iload_n x 1 dX5_link_4 rfl rfl ?_
  refine V_iload_n x 2 dX5_link_5 rfl rfl ?_
  refine V_iast x 5 0 nI ln s [(ht, .inr (5, [.ref tc, .ref tw, .ref tf, .ref tb, .ref tl, .ref ts, .ref tq])), (tc, .inl (cI, 1688, .inl (fun i => oN (ch i)))), (tw, .inl (cZ, 211, .inl (fun i => bI (wh i)))), (tf, .inl (cI, 211, .inl (fun i => nI (hf i)))), (tb, .inl (cI, 211, .inl (fun i => nI (hb i)))), (tl, .inl (cI, 211, .inl (fun i => nI ((va_up ln p s) i)))), (ts, .inl (cI, 211, .inl (fun i => oN (sw i)))), (tq, .inl (cI, 211, .inl (fun i => nI (od i))))] rfl rfl dX5_link_6 (by omega) (by omega) rfl ?_
  refine V_aload_n x 0 dX5_link_7 rfl rfl ?_
  refine V_get x 0 5 5 hinX5 rfl rfl (by decide) flX5_28 rfl dX5_link_8 ?_
  refine V_iload_n x 1 dX5_link_11 rfl rfl ?_
  refine V_aload_n x 0 dX5_link_12 rfl rfl ?_
  refine V_get x 0 5 1 hinX5 rfl rfl (by decide) flX5_15 rfl dX5_link_13 ?_
  refine V_iload_n x 2 dX5_link_16 rfl rfl ?_
  refine V_zald x 2 1 rfl rfl dX5_link_17 (by omega) (by omega) ?_
  refine V_if_eqB x 25 dX5_link_18 rfl (fun t18 => ?_) (fun f18 => ?_)
  · skip
    refine V_aload_n x 0 dX5_link_25 rfl rfl ?_
    refine V_get x 0 5 5 hinX5 rfl rfl (by decide) flX5_28 rfl dX5_link_26 ?_
    refine V_iload_n x 2 dX5_link_29 rfl rfl ?_
    refine V_iald x 6 0 rfl rfl dX5_link_30 (by omega) (by omega) ?_
    refine V_iast x 6 0 oN sw (sw s) [(ht, .inr (5, [.ref tc, .ref tw, .ref tf, .ref tb, .ref tl, .ref ts, .ref tq])), (tc, .inl (cI, 1688, .inl (fun i => oN (ch i)))), (tw, .inl (cZ, 211, .inl (fun i => bI (wh i)))), (tf, .inl (cI, 211, .inl (fun i => nI (hf i)))), (tb, .inl (cI, 211, .inl (fun i => nI (hb i)))), (tl, .inl (cI, 211, .inl (fun i => nI ((va_up ln p s) i)))), (ts, .inl (cI, 211, .inl (fun i => oN ((va_up sw p (sw s)) i)))), (tq, .inl (cI, 211, .inl (fun i => nI (od i))))] rfl rfl dX5_link_31 (by omega) (by omega) rfl ?_
    first | (rw [if_pos f18] at hret) | (rw [if_neg (by rw [t18]; decide)] at hret)
    exact hret _ _ dX5_link_32
  · skip
    refine V_iload_n x 2 dX5_link_21 rfl rfl ?_
    refine V_goto x 31 dX5_link_22 rfl ?_
    refine V_iast x 6 0 oN sw (some s) [(ht, .inr (5, [.ref tc, .ref tw, .ref tf, .ref tb, .ref tl, .ref ts, .ref tq])), (tc, .inl (cI, 1688, .inl (fun i => oN (ch i)))), (tw, .inl (cZ, 211, .inl (fun i => bI (wh i)))), (tf, .inl (cI, 211, .inl (fun i => nI (hf i)))), (tb, .inl (cI, 211, .inl (fun i => nI (hb i)))), (tl, .inl (cI, 211, .inl (fun i => nI ((va_up ln p s) i)))), (ts, .inl (cI, 211, .inl (fun i => oN ((va_up sw p (some s)) i)))), (tq, .inl (cI, 211, .inl (fun i => nI (od i))))] rfl rfl dX5_link_31 (by omega) (by omega) rfl ?_
    first | (rw [if_pos f18] at hret) | (rw [if_neg (by rw [t18]; decide)] at hret)
    exact hret _ _ dX5_link_32
set_option maxHeartbeats 4000000 in
set_option maxRecDepth 100000 in
theorem c_follow (l : Launch) (D : va_G) (cI cZ cC cJ : ClassId) (ht tc tw tf tb tl ts tq : Nat) (ch : Nat → Option Nat) (wh : Nat → Bool) (hf : Nat → Nat) (hb : Nat → Nat) (ln : Nat → Nat) (sw : Nat → Option Nat) (od : Nat → Nat) (p : Nat) (q : Nat) (hrg : rg ch) (hl : ∀ i, ln i < 211) (hp : p < 211) (hq : q < 8) : CI l yX5_follow wsX5_follow { frames := 1, cells := 0, slots := 0, locals := 22 } D vwCl (tys4 cI cZ cC cJ) [.ref ht, .int (nI p), .int (nI q)] [(ht, .inr (5, [.ref tc, .ref tw, .ref tf, .ref tb, .ref tl, .ref ts, .ref tq])), (tc, .inl (cI, 1688, .inl (fun i => oN (ch i)))), (tw, .inl (cZ, 211, .inl (fun i => bI (wh i)))), (tf, .inl (cI, 211, .inl (fun i => nI (hf i)))), (tb, .inl (cI, 211, .inl (fun i => nI (hb i)))), (tl, .inl (cI, 211, .inl (fun i => nI (ln i)))), (ts, .inl (cI, 211, .inl (fun i => oN (sw i)))), (tq, .inl (cI, 211, .inl (fun i => nI (od i))))] ((nI (fol ch ln p q))) [(ht, .inr (5, [.ref tc, .ref tw, .ref tf, .ref tb, .ref tl, .ref ts, .ref tq])), (tc, .inl (cI, 1688, .inl (fun i => oN (ch i)))), (tw, .inl (cZ, 211, .inl (fun i => bI (wh i)))), (tf, .inl (cI, 211, .inl (fun i => nI (hf i)))), (tb, .inl (cI, 211, .inl (fun i => nI (hb i)))), (tl, .inl (cI, 211, .inl (fun i => nI (ln i)))), (ts, .inl (cI, 211, .inl (fun i => oN (sw i)))), (tq, .inl (cI, 211, .inl (fun i => nI (od i))))] := by
  refine CI.ofV rfl (by decide +kernel) rfl (Nat.le_of_ble_eq_true rfl) ?_
  intro κ x hret
  refine V_iload_n x 1 dX5_follow_0 rfl rfl ?_
  refine V_istore_n x 3 [(3, .int (nI p)), (0, .ref ht), (1, .int (nI p)), (2, .int (nI q))] dX5_follow_1 rfl (by decide) rfl ?_
  refine V_iconst (v := nI 0) x dX5_follow_2 (by decide +kernel) ?_
  refine V_istore x 4 [(4, .int (nI 0)), (3, .int (nI p)), (0, .ref ht), (1, .int (nI p)), (2, .int (nI q))] dX5_follow_3 (by decide) rfl ?_
  have L5 : ∀ (k5 : Nat) (k : Nat) (a : Nat) (hk : k ≤ 7) (ha : a < 211) (e1 : flw ch ln q (7 - k) a = flw ch ln q 7 p) (hk5 : 7 - k = k5), V κ 0 0 [(ht, .inr (5, [.ref tc, .ref tw, .ref tf, .ref tb, .ref tl, .ref ts, .ref tq])), (tc, .inl (cI, 1688, .inl (fun i => oN (ch i)))), (tw, .inl (cZ, 211, .inl (fun i => bI (wh i)))), (tf, .inl (cI, 211, .inl (fun i => nI (hf i)))), (tb, .inl (cI, 211, .inl (fun i => nI (hb i)))), (tl, .inl (cI, 211, .inl (fun i => nI (ln i)))), (ts, .inl (cI, 211, .inl (fun i => oN (sw i)))), (tq, .inl (cI, 211, .inl (fun i => nI (od i))))] 5 [(0, .ref ht), (1, .int (nI p)), (2, .int (nI q)), (3, .int (nI a)), (4, .int (nI k))] [] := by
    intro k5
    induction k5 using Nat.strongRecOn with
    | ind k5 ih5 =>
      intro k a hk ha e1 hk5
      refine V_iload x 4 dX5_follow_5 rfl ?_
      refine V_bipush (v := nI 7) x dX5_follow_7 (by decide +kernel) ?_
      refine V_icmp_geN x 39 dX5_follow_9 rfl (fun t9 => ?_) (fun f9 => ?_)
      · skip
        have e9 : flw ch ln q 7 p = a := by
          rw [← e1]
          first
          | (rw [show 7 - k = 0 by omega]; rfl)
          | exact flw_end (fun z => absurd z.1 (by omega)) _
          | exact flw_end (fun z => by rw [t23] at z; cases z.2) _
        refine V_aload_n x 0 dX5_follow_39 rfl rfl ?_
        refine V_iload_n x 3 dX5_follow_40 rfl rfl ?_
        refine V_iload_n x 2 dX5_follow_41 rfl rfl ?_
        refine V_callVi x (c_child l D cI cZ cC cJ ht tc tw tf tb tl ts tq ch wh hf hb ln sw od a q (by first | omega | assumption) (by first | omega | assumption)) 2 (gdV mlX5_44 imX5_child seX5_child inX5 coX5_child) rfl hdX5_child ⟨Nat.le_of_ble_eq_true rfl, Nat.le_of_ble_eq_true rfl⟩ ⟨rfl, rfl⟩ 0 rfl rfl rfl [0, 1, 2, 3, 4, 5, 6, 7] [(ht, .inr (5, [.ref tc, .ref tw, .ref tf, .ref tb, .ref tl, .ref ts, .ref tq])), (tc, .inl (cI, 1688, .inl (fun i => oN (ch i)))), (tw, .inl (cZ, 211, .inl (fun i => bI (wh i)))), (tf, .inl (cI, 211, .inl (fun i => nI (hf i)))), (tb, .inl (cI, 211, .inl (fun i => nI (hb i)))), (tl, .inl (cI, 211, .inl (fun i => nI (ln i)))), (ts, .inl (cI, 211, .inl (fun i => oN (sw i)))), (tq, .inl (cI, 211, .inl (fun i => nI (od i))))] rfl rfl [ht, tc, tw, tf, tb, tl, ts, tq] rfl rfl [some 0, some 1, some 2, some 3, some 4, some 5, some 6, some 7] rfl rfl (rest := []) rfl (Nat.le_of_ble_eq_true rfl) dX5_follow_42 ⟨Nat.zero_le _, Nat.zero_le _⟩ ?_
        refine V_istore x 4 [(4, .int (oN (ch (a * 8 + q)))), (0, .ref ht), (1, .int (nI p)), (2, .int (nI q)), (3, .int (nI a))] dX5_follow_45 (by decide) rfl ?_
        refine V_iload x 4 dX5_follow_47 rfl ?_
        refine V_iconst (v := (-1)) x dX5_follow_49 (by decide +kernel) ?_
        refine V_icmp_neO x 57 dX5_follow_50 rfl (fun z hz => lt31 (hrg _ _ hz)) (fun z50 t50 => ?_) (fun f50 => ?_)
        · skip
          simp only [t50, oN_some]
          refine V_iload x 4 dX5_follow_57 rfl ?_
          refine V.ci (x' := nI (fol ch ln p q)) (by unfold fol; rw [e9]; first | (rw [t50]; rfl) | (rw [f50]; rfl)) ?_
          exact hret _ _ dX5_follow_59
        · skip
          simp only [f50, oN_none]
          refine V_iconst (v := nI 0) x dX5_follow_53 (by decide +kernel) ?_
          refine V_goto x 59 dX5_follow_54 rfl ?_
          refine V.ci (x' := nI (fol ch ln p q)) (by unfold fol; rw [e9]; first | (rw [t50]; rfl) | (rw [f50]; rfl)) ?_
          exact hret _ _ dX5_follow_59
      · skip
        refine V_iload_n x 3 dX5_follow_12 rfl rfl ?_
        refine V_if_eqN x 39 dX5_follow_13 rfl (fun t13 => ?_) (fun f13 => ?_)
        · skip
          have e9 : flw ch ln q 7 p = a := by
            rw [← e1]
            first
            | (rw [show 7 - k = 0 by omega]; rfl)
            | exact flw_end (fun z => absurd z.1 (by omega)) _
            | exact flw_end (fun z => by rw [t23] at z; cases z.2) _
          refine V_aload_n x 0 dX5_follow_39 rfl rfl ?_
          refine V_iload_n x 3 dX5_follow_40 rfl rfl ?_
          refine V_iload_n x 2 dX5_follow_41 rfl rfl ?_
          refine V_callVi x (c_child l D cI cZ cC cJ ht tc tw tf tb tl ts tq ch wh hf hb ln sw od a q (by first | omega | assumption) (by first | omega | assumption)) 2 (gdV mlX5_44 imX5_child seX5_child inX5 coX5_child) rfl hdX5_child ⟨Nat.le_of_ble_eq_true rfl, Nat.le_of_ble_eq_true rfl⟩ ⟨rfl, rfl⟩ 0 rfl rfl rfl [0, 1, 2, 3, 4, 5, 6, 7] [(ht, .inr (5, [.ref tc, .ref tw, .ref tf, .ref tb, .ref tl, .ref ts, .ref tq])), (tc, .inl (cI, 1688, .inl (fun i => oN (ch i)))), (tw, .inl (cZ, 211, .inl (fun i => bI (wh i)))), (tf, .inl (cI, 211, .inl (fun i => nI (hf i)))), (tb, .inl (cI, 211, .inl (fun i => nI (hb i)))), (tl, .inl (cI, 211, .inl (fun i => nI (ln i)))), (ts, .inl (cI, 211, .inl (fun i => oN (sw i)))), (tq, .inl (cI, 211, .inl (fun i => nI (od i))))] rfl rfl [ht, tc, tw, tf, tb, tl, ts, tq] rfl rfl [some 0, some 1, some 2, some 3, some 4, some 5, some 6, some 7] rfl rfl (rest := []) rfl (Nat.le_of_ble_eq_true rfl) dX5_follow_42 ⟨Nat.zero_le _, Nat.zero_le _⟩ ?_
          refine V_istore x 4 [(4, .int (oN (ch (a * 8 + q)))), (0, .ref ht), (1, .int (nI p)), (2, .int (nI q)), (3, .int (nI a))] dX5_follow_45 (by decide) rfl ?_
          refine V_iload x 4 dX5_follow_47 rfl ?_
          refine V_iconst (v := (-1)) x dX5_follow_49 (by decide +kernel) ?_
          refine V_icmp_neO x 57 dX5_follow_50 rfl (fun z hz => lt31 (hrg _ _ hz)) (fun z50 t50 => ?_) (fun f50 => ?_)
          · skip
            simp only [t50, oN_some]
            refine V_iload x 4 dX5_follow_57 rfl ?_
            refine V.ci (x' := nI (fol ch ln p q)) (by unfold fol; rw [e9]; first | (rw [t50]; rfl) | (rw [f50]; rfl)) ?_
            exact hret _ _ dX5_follow_59
          · skip
            simp only [f50, oN_none]
            refine V_iconst (v := nI 0) x dX5_follow_53 (by decide +kernel) ?_
            refine V_goto x 59 dX5_follow_54 rfl ?_
            refine V.ci (x' := nI (fol ch ln p q)) (by unfold fol; rw [e9]; first | (rw [t50]; rfl) | (rw [f50]; rfl)) ?_
            exact hret _ _ dX5_follow_59
        · skip
          refine V_aload_n x 0 dX5_follow_16 rfl rfl ?_
          refine V_iload_n x 3 dX5_follow_17 rfl rfl ?_
          refine V_iload_n x 2 dX5_follow_18 rfl rfl ?_
          refine V_callVi x (c_child l D cI cZ cC cJ ht tc tw tf tb tl ts tq ch wh hf hb ln sw od a q (by first | omega | assumption) (by first | omega | assumption)) 2 (gdV mlX5_44 imX5_child seX5_child inX5 coX5_child) rfl hdX5_child ⟨Nat.le_of_ble_eq_true rfl, Nat.le_of_ble_eq_true rfl⟩ ⟨rfl, rfl⟩ 0 rfl rfl rfl [0, 1, 2, 3, 4, 5, 6, 7] [(ht, .inr (5, [.ref tc, .ref tw, .ref tf, .ref tb, .ref tl, .ref ts, .ref tq])), (tc, .inl (cI, 1688, .inl (fun i => oN (ch i)))), (tw, .inl (cZ, 211, .inl (fun i => bI (wh i)))), (tf, .inl (cI, 211, .inl (fun i => nI (hf i)))), (tb, .inl (cI, 211, .inl (fun i => nI (hb i)))), (tl, .inl (cI, 211, .inl (fun i => nI (ln i)))), (ts, .inl (cI, 211, .inl (fun i => oN (sw i)))), (tq, .inl (cI, 211, .inl (fun i => nI (od i))))] rfl rfl [ht, tc, tw, tf, tb, tl, ts, tq] rfl rfl [some 0, some 1, some 2, some 3, some 4, some 5, some 6, some 7] rfl rfl (rest := []) rfl (Nat.le_of_ble_eq_true rfl) dX5_follow_19 ⟨Nat.zero_le _, Nat.zero_le _⟩ ?_
          refine V_iconst (v := (-1)) x dX5_follow_22 (by decide +kernel) ?_
          refine V_icmp_neO x 39 dX5_follow_23 rfl (fun z hz => lt31 (hrg _ _ hz)) (fun z23 t23 => ?_) (fun f23 => ?_)
          · skip
            have e9 : flw ch ln q 7 p = a := by
              rw [← e1]
              first
              | (rw [show 7 - k = 0 by omega]; rfl)
              | exact flw_end (fun z => absurd z.1 (by omega)) _
              | exact flw_end (fun z => by rw [t23] at z; cases z.2) _
            refine V_aload_n x 0 dX5_follow_39 rfl rfl ?_
            refine V_iload_n x 3 dX5_follow_40 rfl rfl ?_
            refine V_iload_n x 2 dX5_follow_41 rfl rfl ?_
            refine V_callVi x (c_child l D cI cZ cC cJ ht tc tw tf tb tl ts tq ch wh hf hb ln sw od a q (by first | omega | assumption) (by first | omega | assumption)) 2 (gdV mlX5_44 imX5_child seX5_child inX5 coX5_child) rfl hdX5_child ⟨Nat.le_of_ble_eq_true rfl, Nat.le_of_ble_eq_true rfl⟩ ⟨rfl, rfl⟩ 0 rfl rfl rfl [0, 1, 2, 3, 4, 5, 6, 7] [(ht, .inr (5, [.ref tc, .ref tw, .ref tf, .ref tb, .ref tl, .ref ts, .ref tq])), (tc, .inl (cI, 1688, .inl (fun i => oN (ch i)))), (tw, .inl (cZ, 211, .inl (fun i => bI (wh i)))), (tf, .inl (cI, 211, .inl (fun i => nI (hf i)))), (tb, .inl (cI, 211, .inl (fun i => nI (hb i)))), (tl, .inl (cI, 211, .inl (fun i => nI (ln i)))), (ts, .inl (cI, 211, .inl (fun i => oN (sw i)))), (tq, .inl (cI, 211, .inl (fun i => nI (od i))))] rfl rfl [ht, tc, tw, tf, tb, tl, ts, tq] rfl rfl [some 0, some 1, some 2, some 3, some 4, some 5, some 6, some 7] rfl rfl (rest := []) rfl (Nat.le_of_ble_eq_true rfl) dX5_follow_42 ⟨Nat.zero_le _, Nat.zero_le _⟩ ?_
            refine V_istore x 4 [(4, .int (oN (ch (a * 8 + q)))), (0, .ref ht), (1, .int (nI p)), (2, .int (nI q)), (3, .int (nI a))] dX5_follow_45 (by decide) rfl ?_
            refine V_iload x 4 dX5_follow_47 rfl ?_
            refine V_iconst (v := (-1)) x dX5_follow_49 (by decide +kernel) ?_
            refine V_icmp_neO x 57 dX5_follow_50 rfl (fun z hz => lt31 (hrg _ _ hz)) (fun z50 t50 => ?_) (fun f50 => ?_)
            · skip
              simp only [t50, oN_some]
              refine V_iload x 4 dX5_follow_57 rfl ?_
              refine V.ci (x' := nI (fol ch ln p q)) (by unfold fol; rw [e9]; first | (rw [t50]; rfl) | (rw [f50]; rfl)) ?_
              exact hret _ _ dX5_follow_59
            · skip
              simp only [f50, oN_none]
              refine V_iconst (v := nI 0) x dX5_follow_53 (by decide +kernel) ?_
              refine V_goto x 59 dX5_follow_54 rfl ?_
              refine V.ci (x' := nI (fol ch ln p q)) (by unfold fol; rw [e9]; first | (rw [t50]; rfl) | (rw [f50]; rfl)) ?_
              exact hret _ _ dX5_follow_59
          · skip
            refine V_aload_n x 0 dX5_follow_26 rfl rfl ?_
            refine V_get x 0 5 4 hinX5 rfl rfl (by decide) flX5_25 rfl dX5_follow_27 ?_
            refine V_iload_n x 3 dX5_follow_30 rfl rfl ?_
            refine V_iald x 5 0 rfl rfl dX5_follow_31 (by omega) (by omega) ?_
            refine V_istore_n x 3 [(3, .int (nI (ln a))), (0, .ref ht), (1, .int (nI p)), (2, .int (nI q)), (4, .int (nI k))] dX5_follow_32 rfl (by decide) rfl ?_
            refine V_iinc x 4 4 [(4, .int (nI (k + 1))), (3, .int (nI (ln a))), (0, .ref ht), (1, .int (nI p)), (2, .int (nI q))] dX5_follow_33 rfl (iinc_1 _) (by decide) rfl ?_
            refine V_goto x 5 dX5_follow_36 rfl ?_
            refine V.sub [2, 3, 4, 1, 0] (lv' := [(0, .ref ht), (1, .int (nI p)), (2, .int (nI q)), (3, .int (nI ((ln a)))), (4, .int (nI ((k + 1))))]) rfl ?_
            exact ih5 (7 - (k + 1)) (by omega) (k + 1) (ln a) (by omega) (hl a) (by rw [← e1, show 7 - k = (7 - (k + 1)) + 1 by omega, flw_next ⟨by omega, f23⟩]) rfl
  refine V.sub [2, 3, 4, 1, 0] (lv' := [(0, .ref ht), (1, .int (nI p)), (2, .int (nI q)), (3, .int (nI p)), (4, .int (nI 0))]) rfl ?_
  exact L5 _ 0 p (by omega) (by omega) rfl rfl
set_option maxHeartbeats 4000000 in
set_option maxRecDepth 100000 in
theorem c_onward (l : Launch) (D : va_G) (cI cZ cC cJ : ClassId) (ht tc tw tf tb tl ts tq : Nat) (ch : Nat → Option Nat) (wh : Nat → Bool) (hf : Nat → Nat) (hb : Nat → Nat) (ln : Nat → Nat) (sw : Nat → Option Nat) (od : Nat → Nat) (p : Nat) (c : Nat) (hrg : rg ch) (hl : ∀ i, ln i < 211) (hp : p < 211) (hc : c < 65536) : CI l yX5_onward wsX5_onward { frames := 2, cells := 0, slots := 0, locals := 46 } D vwCl (tys4 cI cZ cC cJ) [.ref ht, .int (nI p), .int (nI c)] [(ht, .inr (5, [.ref tc, .ref tw, .ref tf, .ref tb, .ref tl, .ref ts, .ref tq])), (tc, .inl (cI, 1688, .inl (fun i => oN (ch i)))), (tw, .inl (cZ, 211, .inl (fun i => bI (wh i)))), (tf, .inl (cI, 211, .inl (fun i => nI (hf i)))), (tb, .inl (cI, 211, .inl (fun i => nI (hb i)))), (tl, .inl (cI, 211, .inl (fun i => nI (ln i)))), (ts, .inl (cI, 211, .inl (fun i => oN (sw i)))), (tq, .inl (cI, 211, .inl (fun i => nI (od i))))] ((nI (onw ch ln p c))) [(ht, .inr (5, [.ref tc, .ref tw, .ref tf, .ref tb, .ref tl, .ref ts, .ref tq])), (tc, .inl (cI, 1688, .inl (fun i => oN (ch i)))), (tw, .inl (cZ, 211, .inl (fun i => bI (wh i)))), (tf, .inl (cI, 211, .inl (fun i => nI (hf i)))), (tb, .inl (cI, 211, .inl (fun i => nI (hb i)))), (tl, .inl (cI, 211, .inl (fun i => nI (ln i)))), (ts, .inl (cI, 211, .inl (fun i => oN (sw i)))), (tq, .inl (cI, 211, .inl (fun i => nI (od i))))] := by
  refine CI.ofV rfl (by decide +kernel) rfl (Nat.le_of_ble_eq_true rfl) ?_
  intro κ x hret
  refine V_iload_n x 2 dX5_onward_0 rfl rfl ?_
  refine V_callSNi x (c_letterOf l D cI cZ cC cJ  c (by first | omega | assumption)) 1 (gd0 coX6_letterOf) rfl inX6 stX6_letterOf rfl hdX6_letterOf ⟨Nat.le_of_ble_eq_true rfl, Nat.le_of_ble_eq_true rfl⟩ ⟨rfl, rfl⟩ rfl [] [(ht, .inr (5, [.ref tc, .ref tw, .ref tf, .ref tb, .ref tl, .ref ts, .ref tq])), (tc, .inl (cI, 1688, .inl (fun i => oN (ch i)))), (tw, .inl (cZ, 211, .inl (fun i => bI (wh i)))), (tf, .inl (cI, 211, .inl (fun i => nI (hf i)))), (tb, .inl (cI, 211, .inl (fun i => nI (hb i)))), (tl, .inl (cI, 211, .inl (fun i => nI (ln i)))), (ts, .inl (cI, 211, .inl (fun i => oN (sw i)))), (tq, .inl (cI, 211, .inl (fun i => nI (od i))))] rfl rfl [] rfl rfl [] rfl rfl (rest := []) rfl (Nat.le_of_ble_eq_true rfl) dX5_onward_1 ⟨Nat.zero_le _, Nat.zero_le _⟩ ?_
  refine V_istore_n x 3 [(3, .int (oN (ltr c))), (0, .ref ht), (1, .int (nI p)), (2, .int (nI c))] dX5_onward_4 rfl (by decide) rfl ?_
  refine V_iload_n x 3 dX5_onward_5 rfl rfl ?_
  refine V_iconst (v := (-1)) x dX5_onward_6 (by decide +kernel) ?_
  refine V_icmp_neO x 14 dX5_onward_7 rfl (fun z hz => by have := ltr_lt hz; omega) (fun z7 t7 => ?_) (fun f7 => ?_)
  · skip
    simp only [t7, oN_some]
    refine V_aload_n x 0 dX5_onward_14 rfl rfl ?_
    refine V_iload_n x 1 dX5_onward_15 rfl rfl ?_
    refine V_iload_n x 3 dX5_onward_16 rfl rfl ?_
    refine V_callVi x (c_follow l D cI cZ cC cJ ht tc tw tf tb tl ts tq ch wh hf hb ln sw od p z7 (by first | omega | assumption) (by first | omega | assumption) (by first | omega | assumption) (ltr_lt t7)) 2 (gdV mlX5_68 imX5_follow seX5_follow inX5 coX5_follow) rfl hdX5_follow ⟨Nat.le_of_ble_eq_true rfl, Nat.le_of_ble_eq_true rfl⟩ ⟨rfl, rfl⟩ 0 rfl rfl rfl [0, 1, 2, 3, 4, 5, 6, 7] [(ht, .inr (5, [.ref tc, .ref tw, .ref tf, .ref tb, .ref tl, .ref ts, .ref tq])), (tc, .inl (cI, 1688, .inl (fun i => oN (ch i)))), (tw, .inl (cZ, 211, .inl (fun i => bI (wh i)))), (tf, .inl (cI, 211, .inl (fun i => nI (hf i)))), (tb, .inl (cI, 211, .inl (fun i => nI (hb i)))), (tl, .inl (cI, 211, .inl (fun i => nI (ln i)))), (ts, .inl (cI, 211, .inl (fun i => oN (sw i)))), (tq, .inl (cI, 211, .inl (fun i => nI (od i))))] rfl rfl [ht, tc, tw, tf, tb, tl, ts, tq] rfl rfl [some 0, some 1, some 2, some 3, some 4, some 5, some 6, some 7] rfl rfl (rest := []) rfl (Nat.le_of_ble_eq_true rfl) dX5_onward_17 ⟨Nat.zero_le _, Nat.zero_le _⟩ ?_
    refine V.ci (x' := nI (onw ch ln p c)) (by unfold onw; first | rw [t7] | (rw [f7])) ?_
    exact hret _ _ dX5_onward_20
  · skip
    simp only [f7, oN_none]
    refine V_iconst (v := nI 0) x dX5_onward_10 (by decide +kernel) ?_
    refine V_goto x 20 dX5_onward_11 rfl ?_
    refine V.ci (x' := nI (onw ch ln p c)) (by unfold onw; first | rw [t7] | (rw [f7])) ?_
    exact hret _ _ dX5_onward_20
set_option maxHeartbeats 4000000 in
set_option maxRecDepth 100000 in
theorem c_towards (l : Launch) (D : va_G) (cI cZ cC cJ : ClassId) (ht tc tw tf tb tl ts tq : Nat) (ch : Nat → Option Nat) (wh : Nat → Bool) (hf : Nat → Nat) (hb : Nat → Nat) (ln : Nat → Nat) (sw : Nat → Option Nat) (od : Nat → Nat) (j : Nat) (p : Nat) (hrg : rg ch) (hj : j < 1000) (hp : p < 211) (hbb : ∀ i, hb i < 1000) (hfb : ∀ i, hf i < 1000) : CI l yX5_letterTowards wsX5_letterTowards { frames := 1, cells := 0, slots := 0, locals := 22 } D vwCl (tys4 cI cZ cC cJ) [.ref ht, .int (nI j), .int (nI p)] [(ht, .inr (5, [.ref tc, .ref tw, .ref tf, .ref tb, .ref tl, .ref ts, .ref tq])), (tc, .inl (cI, 1688, .inl (fun i => oN (ch i)))), (tw, .inl (cZ, 211, .inl (fun i => bI (wh i)))), (tf, .inl (cI, 211, .inl (fun i => nI (hf i)))), (tb, .inl (cI, 211, .inl (fun i => nI (hb i)))), (tl, .inl (cI, 211, .inl (fun i => nI (ln i)))), (ts, .inl (cI, 211, .inl (fun i => oN (sw i)))), (tq, .inl (cI, 211, .inl (fun i => nI (od i))))] ((oN (ltt ch hf hb j p))) [(ht, .inr (5, [.ref tc, .ref tw, .ref tf, .ref tb, .ref tl, .ref ts, .ref tq])), (tc, .inl (cI, 1688, .inl (fun i => oN (ch i)))), (tw, .inl (cZ, 211, .inl (fun i => bI (wh i)))), (tf, .inl (cI, 211, .inl (fun i => nI (hf i)))), (tb, .inl (cI, 211, .inl (fun i => nI (hb i)))), (tl, .inl (cI, 211, .inl (fun i => nI (ln i)))), (ts, .inl (cI, 211, .inl (fun i => oN (sw i)))), (tq, .inl (cI, 211, .inl (fun i => nI (od i))))] := by
  refine CI.ofV rfl (by decide +kernel) rfl (Nat.le_of_ble_eq_true rfl) ?_
  intro κ x hret
  refine V_iconst (v := nI 0) x dX5_letterTowards_0 (by decide +kernel) ?_
  refine V_istore_n x 3 [(3, .int (nI 0)), (0, .ref ht), (1, .int (nI j)), (2, .int (nI p))] dX5_letterTowards_1 rfl (by decide) rfl ?_
  have L2 : ∀ (k2 : Nat) (k : Nat) (hk : k ≤ 8) (e1 : ltw ch hf hb j p (8 - k) k = ltt ch hf hb j p) (hk2 : 8 - k = k2), V κ 0 0 [(ht, .inr (5, [.ref tc, .ref tw, .ref tf, .ref tb, .ref tl, .ref ts, .ref tq])), (tc, .inl (cI, 1688, .inl (fun i => oN (ch i)))), (tw, .inl (cZ, 211, .inl (fun i => bI (wh i)))), (tf, .inl (cI, 211, .inl (fun i => nI (hf i)))), (tb, .inl (cI, 211, .inl (fun i => nI (hb i)))), (tl, .inl (cI, 211, .inl (fun i => nI (ln i)))), (ts, .inl (cI, 211, .inl (fun i => oN (sw i)))), (tq, .inl (cI, 211, .inl (fun i => nI (od i))))] 2 [(0, .ref ht), (1, .int (nI j)), (2, .int (nI p)), (3, .int (nI k))] [] := by
    intro k2
    induction k2 using Nat.strongRecOn with
    | ind k2 ih2 =>
      intro k hk e1 hk2
      refine V_iload_n x 3 dX5_letterTowards_2 rfl rfl ?_
      refine V_bipush (v := nI 8) x dX5_letterTowards_3 (by decide +kernel) ?_
      refine V_icmp_geN x 60 dX5_letterTowards_5 rfl (fun t5 => ?_) (fun f5 => ?_)
      · skip
        refine V_iconst (v := (-1)) x dX5_letterTowards_60 (by decide +kernel) ?_
        refine V.ci (x' := oN (ltt ch hf hb j p)) (by rw [← e1, show 8 - k = 0 by omega]; rfl) ?_
        exact hret _ _ dX5_letterTowards_61
      · skip
        refine V_aload_n x 0 dX5_letterTowards_8 rfl rfl ?_
        refine V_iload_n x 2 dX5_letterTowards_9 rfl rfl ?_
        refine V_iload_n x 3 dX5_letterTowards_10 rfl rfl ?_
        refine V_callVi x (c_child l D cI cZ cC cJ ht tc tw tf tb tl ts tq ch wh hf hb ln sw od p k (by first | omega | assumption) (by first | omega | assumption)) 2 (gdV mlX5_44 imX5_child seX5_child inX5 coX5_child) rfl hdX5_child ⟨Nat.le_of_ble_eq_true rfl, Nat.le_of_ble_eq_true rfl⟩ ⟨rfl, rfl⟩ 0 rfl rfl rfl [0, 1, 2, 3, 4, 5, 6, 7] [(ht, .inr (5, [.ref tc, .ref tw, .ref tf, .ref tb, .ref tl, .ref ts, .ref tq])), (tc, .inl (cI, 1688, .inl (fun i => oN (ch i)))), (tw, .inl (cZ, 211, .inl (fun i => bI (wh i)))), (tf, .inl (cI, 211, .inl (fun i => nI (hf i)))), (tb, .inl (cI, 211, .inl (fun i => nI (hb i)))), (tl, .inl (cI, 211, .inl (fun i => nI (ln i)))), (ts, .inl (cI, 211, .inl (fun i => oN (sw i)))), (tq, .inl (cI, 211, .inl (fun i => nI (od i))))] rfl rfl [ht, tc, tw, tf, tb, tl, ts, tq] rfl rfl [some 0, some 1, some 2, some 3, some 4, some 5, some 6, some 7] rfl rfl (rest := []) rfl (Nat.le_of_ble_eq_true rfl) dX5_letterTowards_11 ⟨Nat.zero_le _, Nat.zero_le _⟩ ?_
        refine V_istore x 4 [(4, .int (oN (ch (p * 8 + k)))), (0, .ref ht), (1, .int (nI j)), (2, .int (nI p)), (3, .int (nI k))] dX5_letterTowards_14 (by decide) rfl ?_
        refine V_iload x 4 dX5_letterTowards_16 rfl ?_
        refine V_iconst (v := (-1)) x dX5_letterTowards_18 (by decide +kernel) ?_
        refine V_icmp_eqO x 54 dX5_letterTowards_19 rfl (fun z hz => lt31 (hrg _ _ hz)) (fun t19 => ?_) (fun z19 f19 => ?_)
        · skip
          simp only [t19, oN_none]
          refine V_iinc x 3 4 [(3, .int (nI (k + 1))), (4, .int (-1)), (0, .ref ht), (1, .int (nI j)), (2, .int (nI p))] dX5_letterTowards_54 rfl (iinc_1 _) (by decide) rfl ?_
          refine V_goto x 2 dX5_letterTowards_57 rfl ?_
          refine V.sub [2, 3, 4, 0] (lv' := [(0, .ref ht), (1, .int (nI j)), (2, .int (nI p)), (3, .int (nI ((k + 1))))]) rfl ?_
          exact ih2 (8 - (k + 1)) (by omega) (k + 1) (by omega) (by rw [← e1, show 8 - k = (8 - (k + 1)) + 1 by omega]; symm; first | exact ltw_no (ltOk_n t19) | exact ltw_no (by rw [ltOk_s f19]; simp; omega)) rfl
        · skip
          simp only [f19, oN_some]
          refine V_iload_n x 1 dX5_letterTowards_22 rfl rfl ?_
          refine V_aload_n x 0 dX5_letterTowards_23 rfl rfl ?_
          refine V_get x 0 5 3 hinX5 rfl rfl (by decide) flX5_22 rfl dX5_letterTowards_24 ?_
          refine V_iload x 4 dX5_letterTowards_27 rfl ?_
          refine V_iald x 4 0 rfl rfl dX5_letterTowards_29 (hrg _ _ f19) (by omega) ?_
          refine V_icmp_ltN x 54 dX5_letterTowards_30 rfl (fun t30 => ?_) (fun f30 => ?_) (by omega) (by have := hbb z19; omega)
          · skip
            refine V_iinc x 3 4 [(3, .int (nI (k + 1))), (4, .int (nI z19)), (0, .ref ht), (1, .int (nI j)), (2, .int (nI p))] dX5_letterTowards_54 rfl (iinc_1 _) (by decide) rfl ?_
            refine V_goto x 2 dX5_letterTowards_57 rfl ?_
            refine V.sub [2, 3, 4, 0] (lv' := [(0, .ref ht), (1, .int (nI j)), (2, .int (nI p)), (3, .int (nI ((k + 1))))]) rfl ?_
            exact ih2 (8 - (k + 1)) (by omega) (k + 1) (by omega) (by rw [← e1, show 8 - k = (8 - (k + 1)) + 1 by omega]; symm; first | exact ltw_no (ltOk_n t19) | exact ltw_no (by rw [ltOk_s f19]; simp; omega)) rfl
          · skip
            refine V_iload_n x 1 dX5_letterTowards_33 rfl rfl ?_
            refine V_aload_n x 0 dX5_letterTowards_34 rfl rfl ?_
            refine V_get x 0 5 3 hinX5 rfl rfl (by decide) flX5_22 rfl dX5_letterTowards_35 ?_
            refine V_iload x 4 dX5_letterTowards_38 rfl ?_
            refine V_iald x 4 0 rfl rfl dX5_letterTowards_40 (hrg _ _ f19) (by omega) ?_
            refine V_aload_n x 0 dX5_letterTowards_41 rfl rfl ?_
            refine V_get x 0 5 2 hinX5 rfl rfl (by decide) flX5_19 rfl dX5_letterTowards_42 ?_
            refine V_iload x 4 dX5_letterTowards_45 rfl ?_
            refine V_iald x 3 0 rfl rfl dX5_letterTowards_47 (hrg _ _ f19) (by omega) ?_
            refine V_iadd x (nI ((hb z19) + (hf z19))) dX5_letterTowards_48 (nI_add _ _) ?_
            refine V_icmp_geN x 54 dX5_letterTowards_49 rfl (fun t49 => ?_) (fun f49 => ?_) (by omega) (by have := hbb z19; have := hfb z19; omega)
            · skip
              refine V_iinc x 3 4 [(3, .int (nI (k + 1))), (4, .int (nI z19)), (0, .ref ht), (1, .int (nI j)), (2, .int (nI p))] dX5_letterTowards_54 rfl (iinc_1 _) (by decide) rfl ?_
              refine V_goto x 2 dX5_letterTowards_57 rfl ?_
              refine V.sub [2, 3, 4, 0] (lv' := [(0, .ref ht), (1, .int (nI j)), (2, .int (nI p)), (3, .int (nI ((k + 1))))]) rfl ?_
              exact ih2 (8 - (k + 1)) (by omega) (k + 1) (by omega) (by rw [← e1, show 8 - k = (8 - (k + 1)) + 1 by omega]; symm; first | exact ltw_no (ltOk_n t19) | exact ltw_no (by rw [ltOk_s f19]; simp; omega)) rfl
            · skip
              refine V_iload_n x 3 dX5_letterTowards_52 rfl rfl ?_
              refine V.ci (x' := oN (ltt ch hf hb j p)) (by rw [← e1, show 8 - k = (8 - (k + 1)) + 1 by omega, ltw_yes (by rw [ltOk_s f19]; simp; omega)]; rfl) ?_
              exact hret _ _ dX5_letterTowards_53
  refine V.sub [1, 2, 3, 0] (lv' := [(0, .ref ht), (1, .int (nI j)), (2, .int (nI p)), (3, .int (nI 0))]) rfl ?_
  exact L2 _ 0 (by omega) rfl rfl
set_option maxHeartbeats 4000000 in
set_option maxRecDepth 100000 in
theorem c_spell (l : Launch) (D : va_G) (cI cZ cC cJ : ClassId) (ht tc tw tf tb tl ts tq hr ar : Nat) (ch : Nat → Option Nat) (wh : Nat → Bool) (hf : Nat → Nat) (hb : Nat → Nat) (ln : Nat → Nat) (sw : Nat → Option Nat) (od : Nat → Nat) (m : Nat) (tx : Nat → Nat) (n : Nat) (j : Nat) (hrg : rg ch) (hj : j < 1000) (hbb : ∀ i, hb i < 1000) (hfb : ∀ i, hf i < 1000) (hm7 : 7 ≤ m) (hm : m < 1000) : CV l yX5_spell wsX5_spell { frames := 2, cells := 0, slots := 0, locals := 46 } D vwCl (tys4 cI cZ cC cJ) [.ref ht, .int (nI j), .ref hr] [(ht, .inr (5, [.ref tc, .ref tw, .ref tf, .ref tb, .ref tl, .ref ts, .ref tq])), (tc, .inl (cI, 1688, .inl (fun i => oN (ch i)))), (tw, .inl (cZ, 211, .inl (fun i => bI (wh i)))), (tf, .inl (cI, 211, .inl (fun i => nI (hf i)))), (tb, .inl (cI, 211, .inl (fun i => nI (hb i)))), (tl, .inl (cI, 211, .inl (fun i => nI (ln i)))), (ts, .inl (cI, 211, .inl (fun i => oN (sw i)))), (tq, .inl (cI, 211, .inl (fun i => nI (od i)))), (hr, .inr (2, [.ref ar, .int (nI n)])), (ar, .inl (cC, m, .inl (fun i => nI (tx i))))] [(ht, .inr (5, [.ref tc, .ref tw, .ref tf, .ref tb, .ref tl, .ref ts, .ref tq])), (tc, .inl (cI, 1688, .inl (fun i => oN (ch i)))), (tw, .inl (cZ, 211, .inl (fun i => bI (wh i)))), (tf, .inl (cI, 211, .inl (fun i => nI (hf i)))), (tb, .inl (cI, 211, .inl (fun i => nI (hb i)))), (tl, .inl (cI, 211, .inl (fun i => nI (ln i)))), (ts, .inl (cI, 211, .inl (fun i => oN (sw i)))), (tq, .inl (cI, 211, .inl (fun i => nI (od i)))), (hr, .inr (2, [.ref ar, .int (nI ((spl ch hf hb j tx n7).2.2.2))])), (ar, .inl (cC, m, .inl (fun i => nI (((spl ch hf hb j tx n7).2.2.1) i))))] := by
  refine CV.ofV (by decide +kernel) rfl (Nat.le_of_ble_eq_true rfl) ?_
  intro κ x hret
  refine V_aload_n x 2 dX5_spell_0 rfl rfl ?_
  refine V_callVi x (c_Line_empty l D cI cZ cC cJ hr ar m tx n ) 0 (gdV mlX5_75 imX2_empty seX2_empty inX2 coX2_empty) rfl hdX2_empty ⟨Nat.le_of_ble_eq_true rfl, Nat.le_of_ble_eq_true rfl⟩ ⟨rfl, rfl⟩ 8 rfl rfl rfl [8, 9] [(ht, .inr (5, [.ref tc, .ref tw, .ref tf, .ref tb, .ref tl, .ref ts, .ref tq])), (tc, .inl (cI, 1688, .inl (fun i => oN (ch i)))), (tw, .inl (cZ, 211, .inl (fun i => bI (wh i)))), (tf, .inl (cI, 211, .inl (fun i => nI (hf i)))), (tb, .inl (cI, 211, .inl (fun i => nI (hb i)))), (tl, .inl (cI, 211, .inl (fun i => nI (ln i)))), (ts, .inl (cI, 211, .inl (fun i => oN (sw i)))), (tq, .inl (cI, 211, .inl (fun i => nI (od i)))), (hr, .inr (2, [.ref ar, .int (nI 0)])), (ar, .inl (cC, m, .inl (fun i => nI (tx i))))] rfl rfl [hr, ar] rfl rfl [none, none, none, none, none, none, none, none, some 0, some 1] rfl rfl (rest := []) rfl (Nat.le_of_ble_eq_true rfl) dX5_spell_1 ⟨Nat.zero_le _, Nat.zero_le _⟩ ?_
  refine V_pop x dX5_spell_4 rfl ?_
  refine V_iconst (v := nI 0) x dX5_spell_5 (by decide +kernel) ?_
  refine V_istore_n x 3 [(3, .int (nI 0)), (0, .ref ht), (1, .int (nI j)), (2, .ref hr)] dX5_spell_6 rfl (by decide) rfl ?_
  refine V_aload_n x 0 dX5_spell_7 rfl rfl ?_
  refine V_iload_n x 1 dX5_spell_8 rfl rfl ?_
  refine V_iconst (v := nI 0) x dX5_spell_9 (by decide +kernel) ?_
  refine V_callVi x (c_towards l D cI cZ cC cJ ht tc tw tf tb tl ts tq ch wh hf hb ln sw od j 0 (by first | omega | assumption) (by first | omega | assumption) (by first | omega | assumption) (by first | omega | assumption) (by first | omega | assumption)) 2 (gdV mlX5_78 imX5_letterTowards seX5_letterTowards inX5 coX5_letterTowards) rfl hdX5_letterTowards ⟨Nat.le_of_ble_eq_true rfl, Nat.le_of_ble_eq_true rfl⟩ ⟨rfl, rfl⟩ 0 rfl rfl rfl [0, 1, 2, 3, 4, 5, 6, 7] [(ht, .inr (5, [.ref tc, .ref tw, .ref tf, .ref tb, .ref tl, .ref ts, .ref tq])), (tc, .inl (cI, 1688, .inl (fun i => oN (ch i)))), (tw, .inl (cZ, 211, .inl (fun i => bI (wh i)))), (tf, .inl (cI, 211, .inl (fun i => nI (hf i)))), (tb, .inl (cI, 211, .inl (fun i => nI (hb i)))), (tl, .inl (cI, 211, .inl (fun i => nI (ln i)))), (ts, .inl (cI, 211, .inl (fun i => oN (sw i)))), (tq, .inl (cI, 211, .inl (fun i => nI (od i)))), (hr, .inr (2, [.ref ar, .int (nI 0)])), (ar, .inl (cC, m, .inl (fun i => nI (tx i))))] rfl rfl [ht, tc, tw, tf, tb, tl, ts, tq] rfl rfl [some 0, some 1, some 2, some 3, some 4, some 5, some 6, some 7] rfl rfl (rest := []) rfl (Nat.le_of_ble_eq_true rfl) dX5_spell_10 ⟨Nat.zero_le _, Nat.zero_le _⟩ ?_
  refine V_istore x 4 [(4, .int (oN (ltt ch hf hb j 0))), (3, .int (nI 0)), (0, .ref ht), (1, .int (nI j)), (2, .ref hr)] dX5_spell_13 (by decide) rfl ?_
  refine V_iconst (v := nI 0) x dX5_spell_15 (by decide +kernel) ?_
  refine V_istore x 5 [(5, .int (nI 0)), (4, .int (oN (ltt ch hf hb j 0))), (3, .int (nI 0)), (0, .ref ht), (1, .int (nI j)), (2, .ref hr)] dX5_spell_16 (by decide) rfl ?_
  have L18 : ∀ (k18 : Nat) (k : Nat) (p1 : Nat) (o1 : Option Nat) (tx1 : Nat → Nat) (hk : k ≤ 7) (hp1 : p1 < 211) (eo : ltt ch hf hb j p1 = o1) (e1 : spl ch hf hb j tx k = (p1, o1, tx1, k)) (hk18 : 7 - k = k18), V κ 0 0 [(ht, .inr (5, [.ref tc, .ref tw, .ref tf, .ref tb, .ref tl, .ref ts, .ref tq])), (tc, .inl (cI, 1688, .inl (fun i => oN (ch i)))), (tw, .inl (cZ, 211, .inl (fun i => bI (wh i)))), (tf, .inl (cI, 211, .inl (fun i => nI (hf i)))), (tb, .inl (cI, 211, .inl (fun i => nI (hb i)))), (tl, .inl (cI, 211, .inl (fun i => nI (ln i)))), (ts, .inl (cI, 211, .inl (fun i => oN (sw i)))), (tq, .inl (cI, 211, .inl (fun i => nI (od i)))), (hr, .inr (2, [.ref ar, .int (nI k)])), (ar, .inl (cC, m, .inl (fun i => nI (tx1 i))))] 18 [(0, .ref ht), (1, .int (nI j)), (2, .ref hr), (3, .int (nI p1)), (4, .int (oN o1)), (5, .int (nI k))] [] := by
    intro k18
    induction k18 using Nat.strongRecOn with
    | ind k18 ih18 =>
      intro k p1 o1 tx1 hk hp1 eo e1 hk18
      refine V_iload x 5 dX5_spell_18 rfl ?_
      refine V_bipush (v := nI 7) x dX5_spell_20 (by decide +kernel) ?_
      refine V_icmp_geN x 64 dX5_spell_22 rfl (fun t22 => ?_) (fun f22 => ?_)
      · skip
        first
        | (have e9 := (Nat.le_antisymm hk t22).trans n7_eq.symm; subst e9; rw [e1] at hret)
        | (subst t28; rw [spl_end e1 (Nat.le_trans hk (Nat.le_of_eq n7_eq.symm))] at hret)
        exact hret _ _ dX5_spell_64
      · skip
        refine V_iload x 4 dX5_spell_25 rfl ?_
        refine V_iconst (v := (-1)) x dX5_spell_27 (by decide +kernel) ?_
        refine V_icmp_eqO x 64 dX5_spell_28 rfl (fun z hz => by have := ltt_lt (eo.trans hz); omega) (fun t28 => ?_) (fun z28 f28 => ?_)
        · skip
          simp only [t28, oN_none]
          first
          | (have e9 := (Nat.le_antisymm hk t22).trans n7_eq.symm; subst e9; rw [e1] at hret)
          | (subst t28; rw [spl_end e1 (Nat.le_trans hk (Nat.le_of_eq n7_eq.symm))] at hret)
          exact hret _ _ dX5_spell_64
        · skip
          simp only [f28, oN_some]
          obtain ⟨z, hz1, -⟩ := ltt_ch (eo.trans f28)
          have hz8 := ltt_lt (eo.trans f28)
          refine V_aload_n x 2 dX5_spell_31 rfl rfl ?_
          refine V_bipush (v := nI 97) x dX5_spell_32 (by decide +kernel) ?_
          refine V_iload x 4 dX5_spell_34 rfl ?_
          refine V_iadd x (nI (97 + z28)) dX5_spell_36 (nI_add _ _) ?_
          refine V_i2c x (nI (97 + z28)) dX5_spell_37 (i2c_N (by omega)) ?_
          refine V_callVi x (c_Line_put l D cI cZ cC cJ hr ar m tx1 k (97 + z28) (by first | omega | assumption) (by first | omega | assumption) (by first | omega | assumption)) 1 (gdV mlX5_81 imX2_put seX2_put inX2 coX2_put) rfl hdX2_put ⟨Nat.le_of_ble_eq_true rfl, Nat.le_of_ble_eq_true rfl⟩ ⟨rfl, rfl⟩ 8 rfl rfl rfl [8, 9] [(ht, .inr (5, [.ref tc, .ref tw, .ref tf, .ref tb, .ref tl, .ref ts, .ref tq])), (tc, .inl (cI, 1688, .inl (fun i => oN (ch i)))), (tw, .inl (cZ, 211, .inl (fun i => bI (wh i)))), (tf, .inl (cI, 211, .inl (fun i => nI (hf i)))), (tb, .inl (cI, 211, .inl (fun i => nI (hb i)))), (tl, .inl (cI, 211, .inl (fun i => nI (ln i)))), (ts, .inl (cI, 211, .inl (fun i => oN (sw i)))), (tq, .inl (cI, 211, .inl (fun i => nI (od i)))), (hr, .inr (2, [.ref ar, .int (nI (k + 1))])), (ar, .inl (cC, m, .inl (fun i => nI ((va_up tx1 k (97 + z28)) i))))] rfl rfl [hr, ar] rfl rfl [none, none, none, none, none, none, none, none, some 0, some 1] rfl rfl (rest := []) rfl (Nat.le_of_ble_eq_true rfl) dX5_spell_38 ⟨Nat.zero_le _, Nat.zero_le _⟩ ?_
          refine V_pop x dX5_spell_41 rfl ?_
          refine V_aload_n x 0 dX5_spell_42 rfl rfl ?_
          refine V_iload_n x 3 dX5_spell_43 rfl rfl ?_
          refine V_iload x 4 dX5_spell_44 rfl ?_
          refine V_callVi x (c_child l D cI cZ cC cJ ht tc tw tf tb tl ts tq ch wh hf hb ln sw od p1 z28 (by first | omega | assumption) (by first | omega | assumption)) 2 (gdV mlX5_44 imX5_child seX5_child inX5 coX5_child) rfl hdX5_child ⟨Nat.le_of_ble_eq_true rfl, Nat.le_of_ble_eq_true rfl⟩ ⟨rfl, rfl⟩ 0 rfl rfl rfl [0, 1, 2, 3, 4, 5, 6, 7] [(ht, .inr (5, [.ref tc, .ref tw, .ref tf, .ref tb, .ref tl, .ref ts, .ref tq])), (tc, .inl (cI, 1688, .inl (fun i => oN (ch i)))), (tw, .inl (cZ, 211, .inl (fun i => bI (wh i)))), (tf, .inl (cI, 211, .inl (fun i => nI (hf i)))), (tb, .inl (cI, 211, .inl (fun i => nI (hb i)))), (tl, .inl (cI, 211, .inl (fun i => nI (ln i)))), (ts, .inl (cI, 211, .inl (fun i => oN (sw i)))), (tq, .inl (cI, 211, .inl (fun i => nI (od i)))), (hr, .inr (2, [.ref ar, .int (nI (k + 1))])), (ar, .inl (cC, m, .inl (fun i => nI ((va_up tx1 k (97 + z28)) i))))] rfl rfl [ht, tc, tw, tf, tb, tl, ts, tq] rfl rfl [some 0, some 1, some 2, some 3, some 4, some 5, some 6, some 7] rfl rfl (rest := []) rfl (Nat.le_of_ble_eq_true rfl) dX5_spell_46 ⟨Nat.zero_le _, Nat.zero_le _⟩ ?_
          refine V.ci (x' := nI z) (by rw [hz1]; rfl) ?_
          refine V_istore_n x 3 [(3, .int (nI z)), (0, .ref ht), (1, .int (nI j)), (2, .ref hr), (4, .int (nI z28)), (5, .int (nI k))] dX5_spell_49 rfl (by decide) rfl ?_
          refine V_aload_n x 0 dX5_spell_50 rfl rfl ?_
          refine V_iload_n x 1 dX5_spell_51 rfl rfl ?_
          refine V_iload_n x 3 dX5_spell_52 rfl rfl ?_
          refine V_callVi x (c_towards l D cI cZ cC cJ ht tc tw tf tb tl ts tq ch wh hf hb ln sw od j z (by first | omega | assumption) (by first | omega | assumption) (hrg _ _ hz1) (by first | omega | assumption) (by first | omega | assumption)) 2 (gdV mlX5_78 imX5_letterTowards seX5_letterTowards inX5 coX5_letterTowards) rfl hdX5_letterTowards ⟨Nat.le_of_ble_eq_true rfl, Nat.le_of_ble_eq_true rfl⟩ ⟨rfl, rfl⟩ 0 rfl rfl rfl [0, 1, 2, 3, 4, 5, 6, 7] [(ht, .inr (5, [.ref tc, .ref tw, .ref tf, .ref tb, .ref tl, .ref ts, .ref tq])), (tc, .inl (cI, 1688, .inl (fun i => oN (ch i)))), (tw, .inl (cZ, 211, .inl (fun i => bI (wh i)))), (tf, .inl (cI, 211, .inl (fun i => nI (hf i)))), (tb, .inl (cI, 211, .inl (fun i => nI (hb i)))), (tl, .inl (cI, 211, .inl (fun i => nI (ln i)))), (ts, .inl (cI, 211, .inl (fun i => oN (sw i)))), (tq, .inl (cI, 211, .inl (fun i => nI (od i)))), (hr, .inr (2, [.ref ar, .int (nI (k + 1))])), (ar, .inl (cC, m, .inl (fun i => nI ((va_up tx1 k (97 + z28)) i))))] rfl rfl [ht, tc, tw, tf, tb, tl, ts, tq] rfl rfl [some 0, some 1, some 2, some 3, some 4, some 5, some 6, some 7] rfl rfl (rest := []) rfl (Nat.le_of_ble_eq_true rfl) dX5_spell_53 ⟨Nat.zero_le _, Nat.zero_le _⟩ ?_
          refine V_istore x 4 [(4, .int (oN (ltt ch hf hb j z))), (3, .int (nI z)), (0, .ref ht), (1, .int (nI j)), (2, .ref hr), (5, .int (nI k))] dX5_spell_56 (by decide) rfl ?_
          refine V_iinc x 5 5 [(5, .int (nI (k + 1))), (4, .int (oN (ltt ch hf hb j z))), (3, .int (nI z)), (0, .ref ht), (1, .int (nI j)), (2, .ref hr)] dX5_spell_58 rfl (iinc_1 _) (by decide) rfl ?_
          refine V_goto x 18 dX5_spell_61 rfl ?_
          refine V.sub [3, 4, 5, 2, 1, 0] (lv' := [(0, .ref ht), (1, .int (nI j)), (2, .ref hr), (3, .int (nI z)), (4, .int (oN ((ltt ch hf hb j z)))), (5, .int (nI ((k + 1))))]) rfl ?_
          exact ih18 (7 - (k + 1)) (by omega) (k + 1) z (ltt ch hf hb j z) (va_up tx1 k (97 + z28)) (by omega) (hrg _ _ hz1) rfl (by rw [spl, e1, f28]; simp only [spS, hz1, Option.getD_some]) rfl
  refine V.sub [3, 4, 5, 2, 1, 0] (lv' := [(0, .ref ht), (1, .int (nI j)), (2, .ref hr), (3, .int (nI 0)), (4, .int (oN ((ltt ch hf hb j 0)))), (5, .int (nI 0))]) rfl ?_
  exact L18 _ 0 0 (ltt ch hf hb j 0) tx (by omega) (by omega) rfl rfl rfl
set_option maxHeartbeats 4000000 in
set_option maxRecDepth 100000 in
theorem c_linkChildren (l : Launch) (D : va_G) (cI cZ cC cJ : ClassId) (ht tc tw tf tb tl ts tq : Nat) (ch : Nat → Option Nat) (wh : Nat → Bool) (hf : Nat → Nat) (hb : Nat → Nat) (ln : Nat → Nat) (sw : Nat → Option Nat) (od : Nat → Nat) (p : Nat) (kn : Nat) (hrg : rg ch) (hl : ∀ i, ln i < 211) (hp : p < 211) (hkn : kn ≤ 211) : CI l yX5_linkChildren wsX5_linkChildren { frames := 2, cells := 0, slots := 0, locals := 46 } D vwCl (tys4 cI cZ cC cJ) [.ref ht, .int (nI p), .int (nI kn)] [(ht, .inr (5, [.ref tc, .ref tw, .ref tf, .ref tb, .ref tl, .ref ts, .ref tq])), (tc, .inl (cI, 1688, .inl (fun i => oN (ch i)))), (tw, .inl (cZ, 211, .inl (fun i => bI (wh i)))), (tf, .inl (cI, 211, .inl (fun i => nI (hf i)))), (tb, .inl (cI, 211, .inl (fun i => nI (hb i)))), (tl, .inl (cI, 211, .inl (fun i => nI (ln i)))), (ts, .inl (cI, 211, .inl (fun i => oN (sw i)))), (tq, .inl (cI, 211, .inl (fun i => nI (od i))))] ((nI ((lks ch wh hf p (hb p + (wh p).toNat, kn, hb, ln, sw, od) n8).2.1))) [(ht, .inr (5, [.ref tc, .ref tw, .ref tf, .ref tb, .ref tl, .ref ts, .ref tq])), (tc, .inl (cI, 1688, .inl (fun i => oN (ch i)))), (tw, .inl (cZ, 211, .inl (fun i => bI (wh i)))), (tf, .inl (cI, 211, .inl (fun i => nI (hf i)))), (tb, .inl (cI, 211, .inl (fun i => nI (((lks ch wh hf p (hb p + (wh p).toNat, kn, hb, ln, sw, od) n8).2.2.1) i)))), (tl, .inl (cI, 211, .inl (fun i => nI (((lks ch wh hf p (hb p + (wh p).toNat, kn, hb, ln, sw, od) n8).2.2.2.1) i)))), (ts, .inl (cI, 211, .inl (fun i => oN (((lks ch wh hf p (hb p + (wh p).toNat, kn, hb, ln, sw, od) n8).2.2.2.2.1) i)))), (tq, .inl (cI, 211, .inl (fun i => nI (((lks ch wh hf p (hb p + (wh p).toNat, kn, hb, ln, sw, od) n8).2.2.2.2.2) i))))] := by
  refine CI.ofV rfl (by decide +kernel) rfl (Nat.le_of_ble_eq_true rfl) ?_
  intro κ x hret
  refine V_aload_n x 0 dX5_linkChildren_0 rfl rfl ?_
  refine V_get x 0 5 3 hinX5 rfl rfl (by decide) flX5_22 rfl dX5_linkChildren_1 ?_
  refine V_iload_n x 1 dX5_linkChildren_4 rfl rfl ?_
  refine V_iald x 4 0 rfl rfl dX5_linkChildren_5 (by omega) (by omega) ?_
  refine V_aload_n x 0 dX5_linkChildren_6 rfl rfl ?_
  refine V_get x 0 5 1 hinX5 rfl rfl (by decide) flX5_15 rfl dX5_linkChildren_7 ?_
  refine V_iload_n x 1 dX5_linkChildren_10 rfl rfl ?_
  refine V_zald x 2 1 rfl rfl dX5_linkChildren_11 (by omega) (by omega) ?_
  have J20 : V κ 0 0 [(ht, .inr (5, [.ref tc, .ref tw, .ref tf, .ref tb, .ref tl, .ref ts, .ref tq])), (tc, .inl (cI, 1688, .inl (fun i => oN (ch i)))), (tw, .inl (cZ, 211, .inl (fun i => bI (wh i)))), (tf, .inl (cI, 211, .inl (fun i => nI (hf i)))), (tb, .inl (cI, 211, .inl (fun i => nI (hb i)))), (tl, .inl (cI, 211, .inl (fun i => nI (ln i)))), (ts, .inl (cI, 211, .inl (fun i => oN (sw i)))), (tq, .inl (cI, 211, .inl (fun i => nI (od i))))] 20 [(0, .ref ht), (1, .int (nI p)), (2, .int (nI kn))] [.int (nI ((wh p).toNat)), .int (nI (hb p))] := by
    refine V_iadd x (nI ((hb p) + ((wh p).toNat))) dX5_linkChildren_20 (nI_add _ _) ?_
    refine V_istore_n x 3 [(3, .int (nI ((hb p) + ((wh p).toNat)))), (0, .ref ht), (1, .int (nI p)), (2, .int (nI kn))] dX5_linkChildren_21 rfl (by decide) rfl ?_
    refine V_iload_n x 2 dX5_linkChildren_22 rfl rfl ?_
    refine V_istore x 4 [(4, .int (nI kn)), (3, .int (nI ((hb p) + ((wh p).toNat)))), (0, .ref ht), (1, .int (nI p)), (2, .int (nI kn))] dX5_linkChildren_23 (by decide) rfl ?_
    refine V_iconst (v := nI 0) x dX5_linkChildren_25 (by decide +kernel) ?_
    refine V_istore x 5 [(5, .int (nI 0)), (4, .int (nI kn)), (3, .int (nI ((hb p) + ((wh p).toNat)))), (0, .ref ht), (1, .int (nI p)), (2, .int (nI kn))] dX5_linkChildren_26 (by decide) rfl ?_
    have L28 : ∀ (k28 : Nat) (k : Nat) (b1 : Nat) (c1 : Nat) (hb1 : Nat → Nat) (ln1 : Nat → Nat) (sw1 : Nat → Option Nat) (od1 : Nat → Nat) (hk : k ≤ 8) (hc1 : c1 ≤ 211) (hl1 : ∀ i, ln1 i < 211) (e1 : lks ch wh hf p (hb p + (wh p).toNat, kn, hb, ln, sw, od) k = (b1, c1, hb1, ln1, sw1, od1)) (hk28 : 8 - k = k28), V κ 0 0 [(ht, .inr (5, [.ref tc, .ref tw, .ref tf, .ref tb, .ref tl, .ref ts, .ref tq])), (tc, .inl (cI, 1688, .inl (fun i => oN (ch i)))), (tw, .inl (cZ, 211, .inl (fun i => bI (wh i)))), (tf, .inl (cI, 211, .inl (fun i => nI (hf i)))), (tb, .inl (cI, 211, .inl (fun i => nI (hb1 i)))), (tl, .inl (cI, 211, .inl (fun i => nI (ln1 i)))), (ts, .inl (cI, 211, .inl (fun i => oN (sw1 i)))), (tq, .inl (cI, 211, .inl (fun i => nI (od1 i))))] 28 [(0, .ref ht), (1, .int (nI p)), (2, .int (nI kn)), (3, .int (nI b1)), (4, .int (nI c1)), (5, .int (nI k))] [] := by
      intro k28
      induction k28 using Nat.strongRecOn with
      | ind k28 ih28 =>
        intro k b1 c1 hb1 ln1 sw1 od1 hk hc1 hl1 e1 hk28
        refine V_iload x 5 dX5_linkChildren_28 rfl ?_
        refine V_bipush (v := nI 8) x dX5_linkChildren_30 (by decide +kernel) ?_
        refine V_icmp_geN x 120 dX5_linkChildren_32 rfl (fun t32 => ?_) (fun f32 => ?_)
        · skip
          refine V_iload x 4 dX5_linkChildren_120 rfl ?_
          first
          | (have e9 := (Nat.le_antisymm hk t32).trans n8_eq.symm; subst e9; rw [e1] at hret)
          | (rw [lks_full (Nat.not_lt.mpr t40) e1 (Nat.le_trans hk (Nat.le_of_eq n8_eq.symm))] at hret)
          exact hret _ _ dX5_linkChildren_122
        · skip
          refine V_iload x 4 dX5_linkChildren_35 rfl ?_
          refine V_sipush (v := nI 211) x dX5_linkChildren_37 (by decide +kernel) ?_
          refine V_icmp_geN x 120 dX5_linkChildren_40 rfl (fun t40 => ?_) (fun f40 => ?_)
          · skip
            refine V_iload x 4 dX5_linkChildren_120 rfl ?_
            first
            | (have e9 := (Nat.le_antisymm hk t32).trans n8_eq.symm; subst e9; rw [e1] at hret)
            | (rw [lks_full (Nat.not_lt.mpr t40) e1 (Nat.le_trans hk (Nat.le_of_eq n8_eq.symm))] at hret)
            exact hret _ _ dX5_linkChildren_122
          · skip
            refine V_aload_n x 0 dX5_linkChildren_43 rfl rfl ?_
            refine V_iload_n x 1 dX5_linkChildren_44 rfl rfl ?_
            refine V_iload x 5 dX5_linkChildren_45 rfl ?_
            refine V_callVi x (c_child l D cI cZ cC cJ ht tc tw tf tb tl ts tq ch wh hf hb1 ln1 sw1 od1 p k (by first | omega | assumption) (by first | omega | assumption)) 2 (gdV mlX5_44 imX5_child seX5_child inX5 coX5_child) rfl hdX5_child ⟨Nat.le_of_ble_eq_true rfl, Nat.le_of_ble_eq_true rfl⟩ ⟨rfl, rfl⟩ 0 rfl rfl rfl [0, 1, 2, 3, 4, 5, 6, 7] [(ht, .inr (5, [.ref tc, .ref tw, .ref tf, .ref tb, .ref tl, .ref ts, .ref tq])), (tc, .inl (cI, 1688, .inl (fun i => oN (ch i)))), (tw, .inl (cZ, 211, .inl (fun i => bI (wh i)))), (tf, .inl (cI, 211, .inl (fun i => nI (hf i)))), (tb, .inl (cI, 211, .inl (fun i => nI (hb1 i)))), (tl, .inl (cI, 211, .inl (fun i => nI (ln1 i)))), (ts, .inl (cI, 211, .inl (fun i => oN (sw1 i)))), (tq, .inl (cI, 211, .inl (fun i => nI (od1 i))))] rfl rfl [ht, tc, tw, tf, tb, tl, ts, tq] rfl rfl [some 0, some 1, some 2, some 3, some 4, some 5, some 6, some 7] rfl rfl (rest := []) rfl (Nat.le_of_ble_eq_true rfl) dX5_linkChildren_47 ⟨Nat.zero_le _, Nat.zero_le _⟩ ?_
            refine V_istore x 6 [(6, .int (oN (ch (p * 8 + k)))), (0, .ref ht), (1, .int (nI p)), (2, .int (nI kn)), (3, .int (nI b1)), (4, .int (nI c1)), (5, .int (nI k))] dX5_linkChildren_50 (by decide) rfl ?_
            refine V_iload x 6 dX5_linkChildren_52 rfl ?_
            refine V_iconst (v := (-1)) x dX5_linkChildren_54 (by decide +kernel) ?_
            refine V_icmp_eqO x 114 dX5_linkChildren_55 rfl (fun z hz => lt31 (hrg _ _ hz)) (fun t55 => ?_) (fun z55 f55 => ?_)
            · skip
              simp only [t55, oN_none]
              refine V_iinc x 5 6 [(5, .int (nI (k + 1))), (6, .int (-1)), (0, .ref ht), (1, .int (nI p)), (2, .int (nI kn)), (3, .int (nI b1)), (4, .int (nI c1))] dX5_linkChildren_114 rfl (iinc_1 _) (by decide) rfl ?_
              refine V_goto x 28 dX5_linkChildren_117 rfl ?_
              refine V.sub [2, 3, 4, 5, 6, 0] (lv' := [(0, .ref ht), (1, .int (nI p)), (2, .int (nI kn)), (3, .int (nI b1)), (4, .int (nI c1)), (5, .int (nI ((k + 1))))]) rfl ?_
              exact ih28 (8 - (k + 1)) (by omega) (k + 1) b1 c1 hb1 ln1 sw1 od1 (by omega) (by omega) (by first | exact hl1 | exact up_lt hl1 hs1) (by rw [lks, e1]; first | exact lkS_none t55 | exact lkS_some (by omega) f55 hs2) rfl
            · skip
              simp only [f55, oN_some]
              obtain ⟨sq, hs2⟩ : ∃ sq, (if p = 0 then 0 else fol ch ln1 (ln1 p) k) = sq := ⟨_, rfl⟩
              have hs1 : sq < 211 := by
                rw [← hs2]
                split
                · omega
                · exact fol_lt hrg
              refine V_aload_n x 0 dX5_linkChildren_58 rfl rfl ?_
              refine V_get x 0 5 3 hinX5 rfl rfl (by decide) flX5_22 rfl dX5_linkChildren_59 ?_
              refine V_iload x 6 dX5_linkChildren_62 rfl ?_
              refine V_iload_n x 3 dX5_linkChildren_64 rfl rfl ?_
              refine V_iast x 4 0 nI hb1 b1 [(ht, .inr (5, [.ref tc, .ref tw, .ref tf, .ref tb, .ref tl, .ref ts, .ref tq])), (tc, .inl (cI, 1688, .inl (fun i => oN (ch i)))), (tw, .inl (cZ, 211, .inl (fun i => bI (wh i)))), (tf, .inl (cI, 211, .inl (fun i => nI (hf i)))), (tb, .inl (cI, 211, .inl (fun i => nI ((va_up hb1 z55 b1) i)))), (tl, .inl (cI, 211, .inl (fun i => nI (ln1 i)))), (ts, .inl (cI, 211, .inl (fun i => oN (sw1 i)))), (tq, .inl (cI, 211, .inl (fun i => nI (od1 i))))] rfl rfl dX5_linkChildren_65 (hrg _ _ f55) (by omega) rfl ?_
              refine V_iload_n x 3 dX5_linkChildren_66 rfl rfl ?_
              refine V_aload_n x 0 dX5_linkChildren_67 rfl rfl ?_
              refine V_get x 0 5 2 hinX5 rfl rfl (by decide) flX5_19 rfl dX5_linkChildren_68 ?_
              refine V_iload x 6 dX5_linkChildren_71 rfl ?_
              refine V_iald x 3 0 rfl rfl dX5_linkChildren_73 (hrg _ _ f55) (by omega) ?_
              refine V_iadd x (nI (b1 + (hf z55))) dX5_linkChildren_74 (nI_add _ _) ?_
              refine V_istore_n x 3 [(3, .int (nI (b1 + (hf z55)))), (6, .int (nI z55)), (0, .ref ht), (1, .int (nI p)), (2, .int (nI kn)), (4, .int (nI c1)), (5, .int (nI k))] dX5_linkChildren_75 rfl (by decide) rfl ?_
              refine V_aload_n x 0 dX5_linkChildren_76 rfl rfl ?_
              refine V_iload x 6 dX5_linkChildren_77 rfl ?_
              refine V_iload_n x 1 dX5_linkChildren_79 rfl rfl ?_
              have J99 : V κ 0 0 [(ht, .inr (5, [.ref tc, .ref tw, .ref tf, .ref tb, .ref tl, .ref ts, .ref tq])), (tc, .inl (cI, 1688, .inl (fun i => oN (ch i)))), (tw, .inl (cZ, 211, .inl (fun i => bI (wh i)))), (tf, .inl (cI, 211, .inl (fun i => nI (hf i)))), (tb, .inl (cI, 211, .inl (fun i => nI ((va_up hb1 z55 b1) i)))), (tl, .inl (cI, 211, .inl (fun i => nI (ln1 i)))), (ts, .inl (cI, 211, .inl (fun i => oN (sw1 i)))), (tq, .inl (cI, 211, .inl (fun i => nI (od1 i))))] 99 [(3, .int (nI (b1 + (hf z55)))), (6, .int (nI z55)), (0, .ref ht), (1, .int (nI p)), (2, .int (nI kn)), (4, .int (nI c1)), (5, .int (nI k))] [.int (nI sq), .int (nI z55), .ref ht] := by
                refine V_callVv x (c_link l D cI cZ cC cJ ht tc tw tf tb tl ts tq ch wh hf (va_up hb1 z55 b1) ln1 sw1 od1 z55 sq (hrg _ _ f55) hs1) 2 (gdV mlX5_71 imX5_link seX5_link inX5 coX5_link) rfl hdX5_link ⟨Nat.le_of_ble_eq_true rfl, Nat.le_of_ble_eq_true rfl⟩ ⟨rfl, rfl⟩ 0 rfl rfl rfl [0, 1, 2, 3, 4, 5, 6, 7] [(ht, .inr (5, [.ref tc, .ref tw, .ref tf, .ref tb, .ref tl, .ref ts, .ref tq])), (tc, .inl (cI, 1688, .inl (fun i => oN (ch i)))), (tw, .inl (cZ, 211, .inl (fun i => bI (wh i)))), (tf, .inl (cI, 211, .inl (fun i => nI (hf i)))), (tb, .inl (cI, 211, .inl (fun i => nI (((va_up hb1 z55 b1)) i)))), (tl, .inl (cI, 211, .inl (fun i => nI ((va_up ln1 z55 sq) i)))), (ts, .inl (cI, 211, .inl (fun i => oN ((va_up sw1 z55 (if wh sq then some sq else sw1 sq)) i)))), (tq, .inl (cI, 211, .inl (fun i => nI (od1 i))))] rfl rfl [ht, tc, tw, tf, tb, tl, ts, tq] rfl rfl [some 0, some 1, some 2, some 3, some 4, some 5, some 6, some 7] rfl rfl (rest := []) rfl (Nat.le_of_ble_eq_true rfl) dX5_linkChildren_99 ⟨Nat.zero_le _, Nat.zero_le _⟩ ?_
                refine V_aload_n x 0 dX5_linkChildren_102 rfl rfl ?_
                refine V_get x 0 5 6 hinX5 rfl rfl (by decide) flX5_31 rfl dX5_linkChildren_103 ?_
                refine V_iload x 4 dX5_linkChildren_106 rfl ?_
                refine V_iload x 6 dX5_linkChildren_108 rfl ?_
                refine V_iast x 7 0 nI od1 z55 [(ht, .inr (5, [.ref tc, .ref tw, .ref tf, .ref tb, .ref tl, .ref ts, .ref tq])), (tc, .inl (cI, 1688, .inl (fun i => oN (ch i)))), (tw, .inl (cZ, 211, .inl (fun i => bI (wh i)))), (tf, .inl (cI, 211, .inl (fun i => nI (hf i)))), (tb, .inl (cI, 211, .inl (fun i => nI (((va_up hb1 z55 b1)) i)))), (tl, .inl (cI, 211, .inl (fun i => nI ((va_up ln1 z55 sq) i)))), (ts, .inl (cI, 211, .inl (fun i => oN ((va_up sw1 z55 (if wh sq then some sq else sw1 sq)) i)))), (tq, .inl (cI, 211, .inl (fun i => nI ((va_up od1 c1 z55) i))))] rfl rfl dX5_linkChildren_110 (by omega) (by omega) rfl ?_
                refine V_iinc x 4 5 [(4, .int (nI (c1 + 1))), (3, .int (nI (b1 + (hf z55)))), (6, .int (nI z55)), (0, .ref ht), (1, .int (nI p)), (2, .int (nI kn)), (5, .int (nI k))] dX5_linkChildren_111 rfl (iinc_1 _) (by decide) rfl ?_
                refine V_iinc x 5 6 [(5, .int (nI (k + 1))), (4, .int (nI (c1 + 1))), (3, .int (nI (b1 + (hf z55)))), (6, .int (nI z55)), (0, .ref ht), (1, .int (nI p)), (2, .int (nI kn))] dX5_linkChildren_114 rfl (iinc_1 _) (by decide) rfl ?_
                refine V_goto x 28 dX5_linkChildren_117 rfl ?_
                refine V.sub [4, 5, 6, 2, 1, 0] (lv' := [(0, .ref ht), (1, .int (nI p)), (2, .int (nI kn)), (3, .int (nI ((b1 + (hf z55))))), (4, .int (nI ((c1 + 1)))), (5, .int (nI ((k + 1))))]) rfl ?_
                exact ih28 (8 - (k + 1)) (by omega) (k + 1) (b1 + (hf z55)) (c1 + 1) ((va_up hb1 z55 b1)) (va_up ln1 z55 sq) (va_up sw1 z55 (if wh sq then some sq else sw1 sq)) (va_up od1 c1 z55) (by omega) (by omega) (by first | exact hl1 | exact up_lt hl1 hs1) (by rw [lks, e1]; first | exact lkS_none t55 | exact lkS_some (by omega) f55 hs2) rfl
              refine V_if_neN x 87 dX5_linkChildren_80 rfl (fun t80 => ?_) (fun f80 => ?_)
              · skip
                refine V_aload_n x 0 dX5_linkChildren_87 rfl rfl ?_
                refine V_aload_n x 0 dX5_linkChildren_88 rfl rfl ?_
                refine V_get x 0 5 4 hinX5 rfl rfl (by decide) flX5_25 rfl dX5_linkChildren_89 ?_
                refine V_iload_n x 1 dX5_linkChildren_92 rfl rfl ?_
                refine V_iald x 5 0 rfl rfl dX5_linkChildren_93 (by omega) (by omega) ?_
                refine V_iload x 5 dX5_linkChildren_94 rfl ?_
                refine V_callVi x (c_follow l D cI cZ cC cJ ht tc tw tf tb tl ts tq ch wh hf (va_up hb1 z55 b1) ln1 sw1 od1 (ln1 p) k (by first | omega | assumption) hl1 (hl1 p) (by first | omega | assumption)) 2 (gdV mlX5_68 imX5_follow seX5_follow inX5 coX5_follow) rfl hdX5_follow ⟨Nat.le_of_ble_eq_true rfl, Nat.le_of_ble_eq_true rfl⟩ ⟨rfl, rfl⟩ 0 rfl rfl rfl [0, 1, 2, 3, 4, 5, 6, 7] [(ht, .inr (5, [.ref tc, .ref tw, .ref tf, .ref tb, .ref tl, .ref ts, .ref tq])), (tc, .inl (cI, 1688, .inl (fun i => oN (ch i)))), (tw, .inl (cZ, 211, .inl (fun i => bI (wh i)))), (tf, .inl (cI, 211, .inl (fun i => nI (hf i)))), (tb, .inl (cI, 211, .inl (fun i => nI (((va_up hb1 z55 b1)) i)))), (tl, .inl (cI, 211, .inl (fun i => nI (ln1 i)))), (ts, .inl (cI, 211, .inl (fun i => oN (sw1 i)))), (tq, .inl (cI, 211, .inl (fun i => nI (od1 i))))] rfl rfl [ht, tc, tw, tf, tb, tl, ts, tq] rfl rfl [some 0, some 1, some 2, some 3, some 4, some 5, some 6, some 7] rfl rfl (rest := [.int (nI z55), .ref ht]) rfl (Nat.le_of_ble_eq_true rfl) dX5_linkChildren_96 ⟨Nat.zero_le _, Nat.zero_le _⟩ ?_
                refine V.ci (x' := nI sq) (by rw [← hs2]; first | (rw [if_pos f80]; done) | (rw [if_neg (by omega)])) ?_
                exact J99
              · skip
                refine V_iconst (v := nI 0) x dX5_linkChildren_83 (by decide +kernel) ?_
                refine V_goto x 99 dX5_linkChildren_84 rfl ?_
                refine V.ci (x' := nI sq) (by rw [← hs2]; first | (rw [if_pos f80]; done) | (rw [if_neg (by omega)])) ?_
                exact J99
    refine V.sub [3, 4, 5, 2, 1, 0] (lv' := [(0, .ref ht), (1, .int (nI p)), (2, .int (nI kn)), (3, .int (nI ((hb p + (wh p).toNat)))), (4, .int (nI kn)), (5, .int (nI 0))]) rfl ?_
    exact L28 _ 0 (hb p + (wh p).toNat) kn hb ln sw od (by omega) (by omega) hl rfl rfl
  refine V_if_eqB x 19 dX5_linkChildren_12 rfl (fun t12 => ?_) (fun f12 => ?_)
  · skip
    refine V_iconst (v := nI 0) x dX5_linkChildren_19 (by decide +kernel) ?_
    refine V.ci (x' := nI ((wh p).toNat)) (by first | (rw [t12]; rfl) | (rw [f12]; rfl)) ?_
    exact J20
  · skip
    refine V_iconst (v := nI 1) x dX5_linkChildren_15 (by decide +kernel) ?_
    refine V_goto x 20 dX5_linkChildren_16 rfl ?_
    refine V.ci (x' := nI ((wh p).toNat)) (by first | (rw [t12]; rfl) | (rw [f12]; rfl)) ?_
    exact J20
set_option maxHeartbeats 4000000 in
set_option maxRecDepth 100000 in
theorem c_relink (l : Launch) (D : va_G) (cI cZ cC cJ : ClassId) (ht tc tw tf tb tl ts tq : Nat) (ch : Nat → Option Nat) (wh : Nat → Bool) (hf : Nat → Nat) (hb : Nat → Nat) (ln : Nat → Nat) (sw : Nat → Option Nat) (od : Nat → Nat) (hrg : rg ch) (hl : ∀ i, ln i < 211) (ho : ∀ i, od i < 211) : CV l yX5_relink wsX5_relink { frames := 3, cells := 0, slots := 0, locals := 72 } D vwCl (tys4 cI cZ cC cJ) [.ref ht] [(ht, .inr (5, [.ref tc, .ref tw, .ref tf, .ref tb, .ref tl, .ref ts, .ref tq])), (tc, .inl (cI, 1688, .inl (fun i => oN (ch i)))), (tw, .inl (cZ, 211, .inl (fun i => bI (wh i)))), (tf, .inl (cI, 211, .inl (fun i => nI (hf i)))), (tb, .inl (cI, 211, .inl (fun i => nI (hb i)))), (tl, .inl (cI, 211, .inl (fun i => nI (ln i)))), (ts, .inl (cI, 211, .inl (fun i => oN (sw i)))), (tq, .inl (cI, 211, .inl (fun i => nI (od i))))] [(ht, .inr (5, [.ref tc, .ref tw, .ref tf, .ref tb, .ref tl, .ref ts, .ref tq])), (tc, .inl (cI, 1688, .inl (fun i => oN (ch i)))), (tw, .inl (cZ, 211, .inl (fun i => bI (wh i)))), (tf, .inl (cI, 211, .inl (fun i => nI (hf i)))), (tb, .inl (cI, 211, .inl (fun i => nI (((rls ch wh hf hb ln sw od n211).2.1) i)))), (tl, .inl (cI, 211, .inl (fun i => nI (((rls ch wh hf hb ln sw od n211).2.2.1) i)))), (ts, .inl (cI, 211, .inl (fun i => oN (((rls ch wh hf hb ln sw od n211).2.2.2.1) i)))), (tq, .inl (cI, 211, .inl (fun i => nI (((rls ch wh hf hb ln sw od n211).2.2.2.2) i))))] := by
  refine CV.ofV (by decide +kernel) rfl (Nat.le_of_ble_eq_true rfl) ?_
  intro κ x hret
  refine V_iconst (v := nI 1) x dX5_relink_0 (by decide +kernel) ?_
  refine V_istore_n x 1 [(1, .int (nI 1)), (0, .ref ht)] dX5_relink_1 rfl (by decide) rfl ?_
  refine V_aload_n x 0 dX5_relink_2 rfl rfl ?_
  refine V_get x 0 5 6 hinX5 rfl rfl (by decide) flX5_31 rfl dX5_relink_3 ?_
  refine V_iconst (v := nI 0) x dX5_relink_6 (by decide +kernel) ?_
  refine V_iconst (v := nI 0) x dX5_relink_7 (by decide +kernel) ?_
  refine V_iast x 7 0 nI od 0 [(ht, .inr (5, [.ref tc, .ref tw, .ref tf, .ref tb, .ref tl, .ref ts, .ref tq])), (tc, .inl (cI, 1688, .inl (fun i => oN (ch i)))), (tw, .inl (cZ, 211, .inl (fun i => bI (wh i)))), (tf, .inl (cI, 211, .inl (fun i => nI (hf i)))), (tb, .inl (cI, 211, .inl (fun i => nI (hb i)))), (tl, .inl (cI, 211, .inl (fun i => nI (ln i)))), (ts, .inl (cI, 211, .inl (fun i => oN (sw i)))), (tq, .inl (cI, 211, .inl (fun i => nI ((va_up od 0 0) i))))] rfl rfl dX5_relink_8 (by omega) (by omega) rfl ?_
  refine V_iconst (v := nI 0) x dX5_relink_9 (by decide +kernel) ?_
  refine V_istore_n x 2 [(2, .int (nI 0)), (1, .int (nI 1)), (0, .ref ht)] dX5_relink_10 rfl (by decide) rfl ?_
  have L11 : ∀ (k11 : Nat) (k : Nat) (kn : Nat) (hb1 : Nat → Nat) (ln1 : Nat → Nat) (sw1 : Nat → Option Nat) (od1 : Nat → Nat) (hk : k ≤ 211) (hkn : kn ≤ 211) (hl1 : ∀ i, ln1 i < 211) (ho1 : ∀ i, od1 i < 211) (e1 : rls ch wh hf hb ln sw od k = (kn, hb1, ln1, sw1, od1)) (hk11 : 211 - k = k11), V κ 0 0 [(ht, .inr (5, [.ref tc, .ref tw, .ref tf, .ref tb, .ref tl, .ref ts, .ref tq])), (tc, .inl (cI, 1688, .inl (fun i => oN (ch i)))), (tw, .inl (cZ, 211, .inl (fun i => bI (wh i)))), (tf, .inl (cI, 211, .inl (fun i => nI (hf i)))), (tb, .inl (cI, 211, .inl (fun i => nI (hb1 i)))), (tl, .inl (cI, 211, .inl (fun i => nI (ln1 i)))), (ts, .inl (cI, 211, .inl (fun i => oN (sw1 i)))), (tq, .inl (cI, 211, .inl (fun i => nI (od1 i))))] 11 [(0, .ref ht), (1, .int (nI kn)), (2, .int (nI k))] [] := by
    intro k11
    induction k11 using Nat.strongRecOn with
    | ind k11 ih11 =>
      intro k kn hb1 ln1 sw1 od1 hk hkn hl1 ho1 e1 hk11
      refine V_iload_n x 2 dX5_relink_11 rfl rfl ?_
      refine V_iload_n x 1 dX5_relink_12 rfl rfl ?_
      refine V_icmp_geN x 41 dX5_relink_13 rfl (fun t13 => ?_) (fun f13 => ?_)
      · skip
        first
        | (rw [rls_end e1 t13 (Nat.le_trans hk (Nat.le_of_eq n211_eq.symm))] at hret)
        | (have e9 := (Nat.le_antisymm hk t20).trans n211_eq.symm; subst e9; rw [e1] at hret)
        exact hret _ _ dX5_relink_41
      · skip
        refine V_iload_n x 2 dX5_relink_16 rfl rfl ?_
        refine V_sipush (v := nI 211) x dX5_relink_17 (by decide +kernel) ?_
        refine V_icmp_geN x 41 dX5_relink_20 rfl (fun t20 => ?_) (fun f20 => ?_)
        · skip
          first
          | (rw [rls_end e1 t13 (Nat.le_trans hk (Nat.le_of_eq n211_eq.symm))] at hret)
          | (have e9 := (Nat.le_antisymm hk t20).trans n211_eq.symm; subst e9; rw [e1] at hret)
          exact hret _ _ dX5_relink_41
        · skip
          refine V_aload_n x 0 dX5_relink_23 rfl rfl ?_
          refine V_aload_n x 0 dX5_relink_24 rfl rfl ?_
          refine V_get x 0 5 6 hinX5 rfl rfl (by decide) flX5_31 rfl dX5_relink_25 ?_
          refine V_iload_n x 2 dX5_relink_28 rfl rfl ?_
          refine V_iald x 7 0 rfl rfl dX5_relink_29 (by omega) (by omega) ?_
          refine V_iload_n x 1 dX5_relink_30 rfl rfl ?_
          refine V_callVi x (c_linkChildren l D cI cZ cC cJ ht tc tw tf tb tl ts tq ch wh hf hb1 ln1 sw1 od1 (od1 k) kn (by first | omega | assumption) hl1 (ho1 k) (by first | omega | assumption)) 2 (gdV mlX5_65 imX5_linkChildren seX5_linkChildren inX5 coX5_linkChildren) rfl hdX5_linkChildren ⟨Nat.le_of_ble_eq_true rfl, Nat.le_of_ble_eq_true rfl⟩ ⟨rfl, rfl⟩ 0 rfl rfl rfl [0, 1, 2, 3, 4, 5, 6, 7] [(ht, .inr (5, [.ref tc, .ref tw, .ref tf, .ref tb, .ref tl, .ref ts, .ref tq])), (tc, .inl (cI, 1688, .inl (fun i => oN (ch i)))), (tw, .inl (cZ, 211, .inl (fun i => bI (wh i)))), (tf, .inl (cI, 211, .inl (fun i => nI (hf i)))), (tb, .inl (cI, 211, .inl (fun i => nI (((lks ch wh hf (od1 k) (hb1 (od1 k) + (wh (od1 k)).toNat, kn, hb1, ln1, sw1, od1) n8).2.2.1) i)))), (tl, .inl (cI, 211, .inl (fun i => nI (((lks ch wh hf (od1 k) (hb1 (od1 k) + (wh (od1 k)).toNat, kn, hb1, ln1, sw1, od1) n8).2.2.2.1) i)))), (ts, .inl (cI, 211, .inl (fun i => oN (((lks ch wh hf (od1 k) (hb1 (od1 k) + (wh (od1 k)).toNat, kn, hb1, ln1, sw1, od1) n8).2.2.2.2.1) i)))), (tq, .inl (cI, 211, .inl (fun i => nI (((lks ch wh hf (od1 k) (hb1 (od1 k) + (wh (od1 k)).toNat, kn, hb1, ln1, sw1, od1) n8).2.2.2.2.2) i))))] rfl rfl [ht, tc, tw, tf, tb, tl, ts, tq] rfl rfl [some 0, some 1, some 2, some 3, some 4, some 5, some 6, some 7] rfl rfl (rest := []) rfl (Nat.le_of_ble_eq_true rfl) dX5_relink_31 ⟨Nat.zero_le _, Nat.zero_le _⟩ ?_
          refine V_istore_n x 1 [(1, .int (nI ((lks ch wh hf (od1 k) (hb1 (od1 k) + (wh (od1 k)).toNat, kn, hb1, ln1, sw1, od1) n8).2.1))), (0, .ref ht), (2, .int (nI k))] dX5_relink_34 rfl (by decide) rfl ?_
          refine V_iinc x 2 2 [(2, .int (nI (k + 1))), (1, .int (nI ((lks ch wh hf (od1 k) (hb1 (od1 k) + (wh (od1 k)).toNat, kn, hb1, ln1, sw1, od1) n8).2.1))), (0, .ref ht)] dX5_relink_35 rfl (iinc_1 _) (by decide) rfl ?_
          refine V_goto x 11 dX5_relink_38 rfl ?_
          refine V.sub [2, 1, 0] (lv' := [(0, .ref ht), (1, .int (nI (((lks ch wh hf (od1 k) (hb1 (od1 k) + (wh (od1 k)).toNat, kn, hb1, ln1, sw1, od1) n8).2.1)))), (2, .int (nI ((k + 1))))]) rfl ?_
          exact ih11 (211 - (k + 1)) (by omega) (k + 1) ((lks ch wh hf (od1 k) (hb1 (od1 k) + (wh (od1 k)).toNat, kn, hb1, ln1, sw1, od1) n8).2.1) ((lks ch wh hf (od1 k) (hb1 (od1 k) + (wh (od1 k)).toNat, kn, hb1, ln1, sw1, od1) n8).2.2.1) ((lks ch wh hf (od1 k) (hb1 (od1 k) + (wh (od1 k)).toNat, kn, hb1, ln1, sw1, od1) n8).2.2.2.1) ((lks ch wh hf (od1 k) (hb1 (od1 k) + (wh (od1 k)).toNat, kn, hb1, ln1, sw1, od1) n8).2.2.2.2.1) ((lks ch wh hf (od1 k) (hb1 (od1 k) + (wh (od1 k)).toNat, kn, hb1, ln1, sw1, od1) n8).2.2.2.2.2) (by omega) (lks_ok hrg hl1 ho1 hkn n8).1 (lks_ok hrg hl1 ho1 hkn n8).2.1 (lks_ok hrg hl1 ho1 hkn n8).2.2 (by rw [rls, e1]; exact if_pos (by omega)) rfl
  refine V.sub [2, 1, 0] (lv' := [(0, .ref ht), (1, .int (nI 1)), (2, .int (nI 0))]) rfl ?_
  exact L11 _ 0 1 hb ln sw (va_up od 0 0) (by omega) (by omega) hl (up_lt ho (by omega)) rfl rfl
