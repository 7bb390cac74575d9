/-! The path of a word: its beginnings that stand in the tree -/
section PT
variable {ch : Nat → Option Nat} {tx : Nat → Nat} {n : Nat} {pa : Nat → Nat}
theorem tr_inv : ∀ k, trc ch tx n k ≤ k ∧ (∀ i, i < trc ch tx n k → tro ch tx n i = some (trp ch tx n pa k i)) ∧ ∀ i, trc ch tx n k ≤ i → i < k → tro ch tx n i = none
  | 0 => ⟨Nat.le_refl _, fun i hi => absurd hi (Nat.not_lt_zero _), fun i _ hi => absurd hi (Nat.not_lt_zero _)⟩
  | k + 1 => by
    obtain ⟨h1, h2, h3⟩ := tr_inv k
    cases hz : tro ch tx n k with
    | none =>
      have e1 : trc ch tx n (k + 1) = trc ch tx n k := by rw [trc, hz]
      have e2 : trp ch tx n pa (k + 1) = trp ch tx n pa k := by rw [trp, hz]
      rw [e1, e2]
      refine ⟨by omega, h2, fun i g1 g2 => ?_⟩
      by_cases e : i = k
      · rw [e]; exact hz
      · exact h3 i g1 (by omega)
    | some z =>
      have e1 : trc ch tx n (k + 1) = k + 1 := by rw [trc, hz]
      have e2 : trp ch tx n pa (k + 1) = va_up (trp ch tx n pa k) k z := by rw [trp, hz]
      rw [e1, e2]
      refine ⟨Nat.le_refl _, fun i hi => ?_, fun i g1 g2 => by omega⟩
      by_cases e : i = k
      · rw [e, va_up_self]; exact hz
      · rw [va_up_ne _ _ e]
        refine h2 i ?_
        rcases Nat.lt_or_ge i (trc ch tx n k) with q | q
        · exact q
        · have := tro_none (h3 i q (by omega)) (show i ≤ k by omega)
          rw [hz] at this
          cases this
theorem alwF_pre {b : Nat} : ∀ {m k : Nat}, alwF tx b m = true → k ≤ m → alwF tx b k = true
  | 0, k, _, hk => by
    rw [show k = 0 by omega]
    rfl
  | m + 1, k, h, hk => by
    by_cases e : k = m + 1
    · rw [e]; exact h
    · have h2 : (alwF tx b m && (ltr (tx (b + m))).isSome) = true := h
      rw [Bool.and_eq_true] at h2
      exact alwF_pre h2.1 (by omega)
theorem tro_fwk : ∀ k, k ≤ n → tro ch tx n k = fwk ch tx k
  | 0, _ => rfl
  | k + 1, hk => by
    show (if k < n then stp ch (tro ch tx n k) (tx k) else none) = stp ch (fwk ch tx k) (tx k)
    rw [if_pos (by omega), tro_fwk k (by omega)]
theorem tro_nod (ha : alwF tx 0 n = true) {k : Nat} (hk : k ≤ n) : tro ch tx n k = nod ch (lts tx 0 k) := by
  rw [tro_fwk k hk, fwk_nod0, if_pos (alwF_pre ha hk)]
theorem tro_past {k : Nat} (hk : n < k) : tro ch tx n k = none := by
  obtain ⟨j, rfl⟩ : ∃ j, k = j + 1 := ⟨k - 1, by omega⟩
  exact if_neg (by omega)
theorem path_is (ha : alwF tx 0 n = true) (hn : n ≤ 7) : (∀ i, i < trc ch tx n n8 ↔ i ≤ n ∧ nod ch (lts tx 0 i) ≠ none) ∧ ∀ i, i < trc ch tx n n8 → nod ch (lts tx 0 i) = some (trp ch tx n pa n8 i) := by
  obtain ⟨h1, h2, h3⟩ := tr_inv (ch := ch) (tx := tx) (n := n) (pa := pa) n8
  have hle : ∀ i, i < trc ch tx n n8 → i ≤ n := by
    intro i hi
    rcases Nat.lt_or_ge n i with q | q
    · have := h2 i hi
      rw [tro_past q] at this
      cases this
    · exact q
  refine ⟨fun i => ⟨fun hi => ⟨hle i hi, ?_⟩, fun hi => ?_⟩, fun i hi => ?_⟩
  · rw [← tro_nod ha (hle i hi), h2 i hi]
    simp
  · rcases Nat.lt_or_ge i (trc ch tx n n8) with q | q
    · exact q
    · have := h3 i q (by rw [n8_eq]; omega)
      rw [tro_nod ha hi.1] at this
      exact absurd this hi.2
  · rw [← tro_nod ha (hle i hi)]
    exact h2 i hi
end PT
