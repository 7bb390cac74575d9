/-! Readers that change nothing; methods that throw. Laid by prog/lay9.py -/
set_option maxHeartbeats 4000000 in
set_option maxRecDepth 100000 in
theorem p_held (l : Launch) (D : va_G) (cI cZ cC cJ : ClassId) (ht tc tw tf tb tl ts tq : Nat) (ch : Nat → Option Nat) (wh : Nat → Bool) (hf : Nat → Nat) (hb : Nat → Nat) (ln : Nat → Nat) (sw : Nat → Option Nat) (od : Nat → Nat) : CP0 l yX5_held wsX5_held { frames := 0, cells := 0, slots := 0, locals := 0 } D vwCl (tys4 cI cZ cC cJ) [.ref ht] [(ht, .inr (5, [.ref tc, .ref tw, .ref tf, .ref tb, .ref tl, .ref ts, .ref tq])), (tc, .inl (cI, 1688, .inl (fun i => oN (ch i)))), (tw, .inl (cZ, 211, .inl (fun i => bI (wh i)))), (tf, .inl (cI, 211, .inl (fun i => nI (hf i)))), (tb, .inl (cI, 211, .inl (fun i => nI (hb i)))), (tl, .inl (cI, 211, .inl (fun i => nI (ln i)))), (ts, .inl (cI, 211, .inl (fun i => oN (sw i)))), (tq, .inl (cI, 211, .inl (fun i => nI (od i))))] (nI (hf 0)) := by
  refine CP0.ofP ⟨rfl, rfl⟩ (by decide +kernel) rfl (Nat.le_of_ble_eq_true rfl) ?_
  intro κ x hP hret
  refine VP_aload_n x 0 dX5_held_0 rfl rfl ?_
  refine VP_get x hP 0 5 2 hinX5 rfl rfl (by decide) flX5_19 rfl dX5_held_1 ?_
  refine VP_iconst (v := nI 0) x dX5_held_4 (by decide +kernel) ?_
  refine VP_iald x hP 3 0 rfl rfl dX5_held_5 (by omega) (by omega) ?_
  exact hret _ _ dX5_held_6
set_option maxHeartbeats 4000000 in
set_option maxRecDepth 100000 in
theorem p_size (l : Launch) (D : va_G) (cI cZ cC cJ : ClassId) (hF fa fb : Nat) (fu : Nat → Nat) (fv : Nat → Nat) (fk : Nat) : CP0 l yX1_size wsX1_size { frames := 0, cells := 0, slots := 0, locals := 0 } D vwCl (tys4 cI cZ cC cJ) [.ref hF] [(hF, .inr (1, [.ref fa, .ref fb, .int (nI fk)])), (fa, .inl (cI, 420, .inl (fun i => nI (fu i)))), (fb, .inl (cI, 420, .inl (fun i => nI (fv i))))] (nI fk) := by
  refine CP0.ofP ⟨rfl, rfl⟩ (by decide +kernel) rfl (Nat.le_of_ble_eq_true rfl) ?_
  intro κ x hP hret
  refine VP_aload_n x 0 dX1_size_0 rfl rfl ?_
  refine VP_get x hP 0 1 2 hinX1 rfl rfl (by decide) flX1_18 rfl dX1_size_1 ?_
  exact hret _ _ dX1_size_4
set_option maxHeartbeats 4000000 in
set_option maxRecDepth 100000 in
theorem xt_add (l : Launch) (hl : l.stackTraces = false) (D : va_G) (cI cZ cC cJ : ClassId) (hx hr h3 h4 ht ha hF hR hS tc tw tf tb tl ts tq : Nat) (ch : Nat → Option Nat) (wh : Nat → Bool) (hf : Nat → Nat) (hb : Nat → Nat) (ln : Nat → Nat) (sw : Nat → Option Nat) (od : Nat → Nat) (h30 : 30 ≤ hf 0) (h99 : hf 0 < 1000) : CT l yX6_add wsX6_add { frames := 6, cells := 1, slots := 6, locals := 100 } D vwCl (tys4 cI cZ cC cJ) [.ref hx] [(hx, .inr (6, [.ref hr, .ref h3, .ref h4, .ref ht, .ref ha, .ref hF, .ref hR, .ref hS])), (ht, .inr (5, [.ref tc, .ref tw, .ref tf, .ref tb, .ref tl, .ref ts, .ref tq])), (tc, .inl (cI, 1688, .inl (fun i => oN (ch i)))), (tw, .inl (cZ, 211, .inl (fun i => bI (wh i)))), (tf, .inl (cI, 211, .inl (fun i => nI (hf i)))), (tb, .inl (cI, 211, .inl (fun i => nI (hb i)))), (tl, .inl (cI, 211, .inl (fun i => nI (ln i)))), (ts, .inl (cI, 211, .inl (fun i => oN (sw i)))), (tq, .inl (cI, 211, .inl (fun i => nI (od i))))] "java/lang/IllegalStateException" := by
  refine CT.ofP hl ["java/lang/RuntimeException", "java/lang/Exception"] 70 72 74 "30 words are held" (by decide +kernel) rfl rfl (Nat.le_of_ble_eq_true rfl) (by decide +kernel) (by decide +kernel) ow_74 clX6_70 in_74 (by decide +kernel) rfl rfl (Nat.le_of_ble_eq_true rfl) (Nat.le_of_ble_eq_true rfl) ?_
  intro κ x hP hDk hthr
  refine VP_aload_n x 0 dX6_add_0 rfl rfl ?_
  refine VP_get x hP 0 6 3 hinX6 rfl rfl (by decide) flX6_27 rfl dX6_add_1 ?_
  refine VP_call x hP hDk (p_held l D cI cZ cC cJ ht tc tw tf tb tl ts tq ch wh hf hb ln sw od) (gdV mlX6_67 imX5_held seX5_held inX5 coX5_held) rfl hdX5_held ⟨Nat.le_of_ble_eq_true rfl, Nat.le_of_ble_eq_true rfl⟩ ⟨rfl, rfl⟩ 1 rfl rfl [1, 2, 3, 4, 5, 6, 7, 8] rfl rfl (rest := []) rfl (Nat.le_of_ble_eq_true rfl) dX6_add_4 ?_
  refine VP_bipush (v := nI 30) x dX6_add_7 (by decide +kernel) ?_
  refine VP_icmp_lt x 22 dX6_add_9 rfl (fun t => ?_) (fun _ => ?_)
  · have := (nI_ltI (by omega) (by omega)).mp t
    omega
  · exact hthr 12 _ dX6_add_12 dX6_add_15 dX6_add_16 dX6_add_18 dX6_add_21
set_option maxHeartbeats 4000000 in
set_option maxRecDepth 100000 in
theorem xt_word (l : Launch) (hl : l.stackTraces = false) (D : va_G) (cI cZ cC cJ : ClassId) (hx hr h3 h4 ht ha hF hR hS tc tw tf tb tl ts tq : Nat) (ch : Nat → Option Nat) (wh : Nat → Bool) (hf : Nat → Nat) (hb : Nat → Nat) (ln : Nat → Nat) (sw : Nat → Option Nat) (od : Nat → Nat) (z : Int32) (hz : ¬ (0 ≤ z ∧ z < nI (hf 0))) : CT l yX6_word wsX6_word { frames := 6, cells := 1, slots := 6, locals := 100 } D vwCl (tys4 cI cZ cC cJ) [.ref hx, .int z] [(hx, .inr (6, [.ref hr, .ref h3, .ref h4, .ref ht, .ref ha, .ref hF, .ref hR, .ref hS])), (ht, .inr (5, [.ref tc, .ref tw, .ref tf, .ref tb, .ref tl, .ref ts, .ref tq])), (tc, .inl (cI, 1688, .inl (fun i => oN (ch i)))), (tw, .inl (cZ, 211, .inl (fun i => bI (wh i)))), (tf, .inl (cI, 211, .inl (fun i => nI (hf i)))), (tb, .inl (cI, 211, .inl (fun i => nI (hb i)))), (tl, .inl (cI, 211, .inl (fun i => nI (ln i)))), (ts, .inl (cI, 211, .inl (fun i => oN (sw i)))), (tq, .inl (cI, 211, .inl (fun i => nI (od i))))] "java/lang/IndexOutOfBoundsException" := by
  refine CT.ofP hl ["java/lang/RuntimeException", "java/lang/Exception"] 95 97 99 "there is no such word" (by decide +kernel) rfl rfl (Nat.le_of_ble_eq_true rfl) (by decide +kernel) (by decide +kernel) ow_99 clX6_95 in_99 (by decide +kernel) rfl rfl (Nat.le_of_ble_eq_true rfl) (Nat.le_of_ble_eq_true rfl) ?_
  intro κ x hP hDk hthr
  refine VP_iload_n x 1 dX6_word_0 rfl rfl ?_
  refine VP_if_lt x 15 dX6_word_1 rfl (fun _ => ?_) (fun f1 => ?_)
  · exact hthr 15 _ dX6_word_15 dX6_word_18 dX6_word_19 dX6_word_21 dX6_word_24
  · refine VP_iload_n x 1 dX6_word_4 rfl rfl ?_
    refine VP_aload_n x 0 dX6_word_5 rfl rfl ?_
    refine VP_get x hP 0 6 3 hinX6 rfl rfl (by decide) flX6_27 rfl dX6_word_6 ?_
    refine VP_call x hP hDk (p_held l D cI cZ cC cJ ht tc tw tf tb tl ts tq ch wh hf hb ln sw od) (gdV mlX6_67 imX5_held seX5_held inX5 coX5_held) rfl hdX5_held ⟨Nat.le_of_ble_eq_true rfl, Nat.le_of_ble_eq_true rfl⟩ ⟨rfl, rfl⟩ 1 rfl rfl [1, 2, 3, 4, 5, 6, 7, 8] rfl rfl (rest := [.int z]) rfl (Nat.le_of_ble_eq_true rfl) dX6_word_9 ?_
    refine VP_icmp_lt x 25 dX6_word_12 rfl (fun t => ?_) (fun _ => ?_)
    · exact absurd ⟨Int32.not_lt.mp f1, t⟩ hz
    · exact hthr 15 _ dX6_word_15 dX6_word_18 dX6_word_19 dX6_word_21 dX6_word_24
set_option maxHeartbeats 4000000 in
set_option maxRecDepth 100000 in
theorem xt_found_k (l : Launch) (hl : l.stackTraces = false) (D : va_G) (cI cZ cC cJ : ClassId) (hx hr h3 h4 ht ha hF hR hS fa fb : Nat) (fu : Nat → Nat) (fv : Nat → Nat) (fk : Nat) (z : Int32) (y : Int32) (hz : ¬ (0 ≤ z ∧ z < nI fk)) : CT l yX6_found wsX6_found { frames := 6, cells := 1, slots := 6, locals := 100 } D vwCl (tys4 cI cZ cC cJ) [.ref hx, .int z, .int y] [(hx, .inr (6, [.ref hr, .ref h3, .ref h4, .ref ht, .ref ha, .ref hF, .ref hR, .ref hS])), (hF, .inr (1, [.ref fa, .ref fb, .int (nI fk)])), (fa, .inl (cI, 420, .inl (fun i => nI (fu i)))), (fb, .inl (cI, 420, .inl (fun i => nI (fv i))))] "java/lang/IndexOutOfBoundsException" := by
  refine CT.ofP hl ["java/lang/RuntimeException", "java/lang/Exception"] 95 152 99 "there is no such one" (by decide +kernel) rfl rfl (Nat.le_of_ble_eq_true rfl) (by decide +kernel) (by decide +kernel) ow_99 clX6_95 in_99 (by decide +kernel) rfl rfl (Nat.le_of_ble_eq_true rfl) (Nat.le_of_ble_eq_true rfl) ?_
  intro κ x hP hDk hthr
  refine VP_iload_n x 1 dX6_found_0 rfl rfl ?_
  refine VP_if_lt x 15 dX6_found_1 rfl (fun _ => ?_) (fun f1 => ?_)
  · exact hthr 15 _ dX6_found_15 dX6_found_18 dX6_found_19 dX6_found_21 dX6_found_24
  · refine VP_iload_n x 1 dX6_found_4 rfl rfl ?_
    refine VP_aload_n x 0 dX6_found_5 rfl rfl ?_
    refine VP_get x hP 0 6 5 hinX6 rfl rfl (by decide) flX6_41 rfl dX6_found_6 ?_
    refine VP_call x hP hDk (p_size l D cI cZ cC cJ hF fa fb fu fv fk) (gdV mlX6_145 imX1_size seX1_size inX1 coX1_size) rfl hdX1_size ⟨Nat.le_of_ble_eq_true rfl, Nat.le_of_ble_eq_true rfl⟩ ⟨rfl, rfl⟩ 1 rfl rfl [1, 2, 3] rfl rfl (rest := [.int z]) rfl (Nat.le_of_ble_eq_true rfl) dX6_found_9 ?_
    refine VP_icmp_lt x 25 dX6_found_12 rfl (fun t => ?_) (fun _ => ?_)
    · exact absurd ⟨Int32.not_lt.mp f1, t⟩ hz
    · exact hthr 15 _ dX6_found_15 dX6_found_18 dX6_found_19 dX6_found_21 dX6_found_24
set_option maxHeartbeats 4000000 in
set_option maxRecDepth 100000 in
theorem xt_near (l : Launch) (hl : l.stackTraces = false) (D : va_G) (cI cZ cC cJ : ClassId) (hx hr h3 h4 ht ha hF hR hS : Nat) (z : Int32) (hz : ¬ (0 ≤ z ∧ z ≤ 2)) : CT l yX6_near wsX6_near { frames := 6, cells := 1, slots := 6, locals := 100 } D vwCl (tys4 cI cZ cC cJ) [.ref hx, .int z] [(hx, .inr (6, [.ref hr, .ref h3, .ref h4, .ref ht, .ref ha, .ref hF, .ref hR, .ref hS]))] "java/lang/IllegalArgumentException" := by
  refine CT.ofP hl ["java/lang/RuntimeException", "java/lang/Exception"] 131 133 135 "most is not 0 .. 2" (by decide +kernel) rfl rfl (Nat.le_of_ble_eq_true rfl) (by decide +kernel) (by decide +kernel) ow_135 clX6_131 in_135 (by decide +kernel) rfl rfl (Nat.le_of_ble_eq_true rfl) (Nat.le_of_ble_eq_true rfl) ?_
  intro κ x hP hDk hthr
  refine VP_iload_n x 1 dX6_near_0 rfl rfl ?_
  refine VP_if_lt x 9 dX6_near_1 rfl (fun _ => ?_) (fun f1 => ?_)
  · exact hthr 9 _ dX6_near_9 dX6_near_12 dX6_near_13 dX6_near_15 dX6_near_18
  · refine VP_iload_n x 1 dX6_near_4 rfl rfl ?_
    refine VP_iconst (v := nI 2) x dX6_near_5 (by decide +kernel) ?_
    refine VP_icmp_le x 19 dX6_near_6 rfl (fun t => ?_) (fun _ => ?_)
    · exact absurd ⟨Int32.not_lt.mp f1, t⟩ hz
    · exact hthr 9 _ dX6_near_9 dX6_near_12 dX6_near_13 dX6_near_15 dX6_near_18
set_option maxHeartbeats 4000000 in
set_option maxRecDepth 100000 in
theorem xt_found_w (l : Launch) (hl : l.stackTraces = false) (D : va_G) (cI cZ cC cJ : ClassId) (hx hr h3 h4 ht ha hF hR hS fa fb : Nat) (fu : Nat → Nat) (fv : Nat → Nat) (fk : Nat) (k : Nat) (y : Int32) (hk : k < fk) (hm : fk ≤ 420) (hy : ¬ (0 ≤ y ∧ y ≤ 1)) : CT l yX6_found wsX6_found { frames := 6, cells := 1, slots := 6, locals := 100 } D vwCl (tys4 cI cZ cC cJ) [.ref hx, .int (nI k), .int y] [(hx, .inr (6, [.ref hr, .ref h3, .ref h4, .ref ht, .ref ha, .ref hF, .ref hR, .ref hS])), (hF, .inr (1, [.ref fa, .ref fb, .int (nI fk)])), (fa, .inl (cI, 420, .inl (fun i => nI (fu i)))), (fb, .inl (cI, 420, .inl (fun i => nI (fv i))))] "java/lang/IllegalArgumentException" := by
  refine CT.ofP hl ["java/lang/RuntimeException", "java/lang/Exception"] 131 154 135 "what is not 0 or 1" (by decide +kernel) rfl rfl (Nat.le_of_ble_eq_true rfl) (by decide +kernel) (by decide +kernel) ow_135 clX6_131 in_135 (by decide +kernel) rfl rfl (Nat.le_of_ble_eq_true rfl) (Nat.le_of_ble_eq_true rfl) ?_
  intro κ x hP hDk hthr
  refine VP_iload_n x 1 dX6_found_0 rfl rfl ?_
  refine VP_if_lt x 15 dX6_found_1 rfl (fun t1 => absurd t1 (nI_pos (by omega))) (fun f1 => ?_)
  refine VP_iload_n x 1 dX6_found_4 rfl rfl ?_
  refine VP_aload_n x 0 dX6_found_5 rfl rfl ?_
  refine VP_get x hP 0 6 5 hinX6 rfl rfl (by decide) flX6_41 rfl dX6_found_6 ?_
  refine VP_call x hP hDk (p_size l D cI cZ cC cJ hF fa fb fu fv fk) (gdV mlX6_145 imX1_size seX1_size inX1 coX1_size) rfl hdX1_size ⟨Nat.le_of_ble_eq_true rfl, Nat.le_of_ble_eq_true rfl⟩ ⟨rfl, rfl⟩ 1 rfl rfl [1, 2, 3] rfl rfl (rest := [.int (nI k)]) rfl (Nat.le_of_ble_eq_true rfl) dX6_found_9 ?_
  refine VP_icmp_lt x 25 dX6_found_12 rfl (fun _ => ?_) (fun f2 => absurd ((nI_ltI (by omega) (by omega)).mpr hk) f2)
  refine VP_iload_n x 2 dX6_found_25 rfl rfl ?_
  refine VP_if_eq x 44 dX6_found_26 rfl (fun t => ?_) (fun _ => ?_)
  · exact absurd (by rw [t]; decide) hy
  · refine VP_iload_n x 2 dX6_found_29 rfl rfl ?_
    refine VP_iconst (v := nI 1) x dX6_found_30 (by decide +kernel) ?_
    refine VP_icmp_eq x 44 dX6_found_31 rfl (fun t => ?_) (fun _ => ?_)
    · exact absurd (by rw [t]; decide) hy
    · exact hthr 34 _ dX6_found_34 dX6_found_37 dX6_found_38 dX6_found_40 dX6_found_43
