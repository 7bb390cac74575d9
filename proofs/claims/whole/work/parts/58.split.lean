/-! split: the fewest words from b on, of these the longest first word -/
def cz (L : List (List Nat)) (tx : Nat → Nat) (fw : Nat → Option Nat) (b : Nat) : Nat → Option (Nat × Nat)
  | 0 => none
  | j + 1 => if (seg L tx b (j + 1)).isSome = true ∧ nw (fw (b + j + 1)) ((cz L tx fw b j).map Prod.fst) = true then some ((fw (b + j + 1)).getD 0 + 1, j + 1) else cz L tx fw b j
theorem cz_yes {L : List (List Nat)} {tx : Nat → Nat} {fw : Nat → Option Nat} {b j : Nat} (h : (seg L tx b (j + 1)).isSome = true ∧ nw (fw (b + j + 1)) ((cz L tx fw b j).map Prod.fst) = true) : cz L tx fw b (j + 1) = some ((fw (b + j + 1)).getD 0 + 1, j + 1) := if_pos h
theorem cz_no {L : List (List Nat)} {tx : Nat → Nat} {fw : Nat → Option Nat} {b j : Nat} (h : ¬ ((seg L tx b (j + 1)).isSome = true ∧ nw (fw (b + j + 1)) ((cz L tx fw b j).map Prod.fst) = true)) : cz L tx fw b (j + 1) = cz L tx fw b j := if_neg h
/-- what is chosen -/
theorem cz_is {L : List (List Nat)} {tx : Nat → Nat} {fw : Nat → Option Nat} {b : Nat} : ∀ {j r k : Nat}, cz L tx fw b j = some (r, k) → 1 ≤ k ∧ k ≤ j ∧ (seg L tx b k).isSome = true ∧ (∃ r', r = r' + 1 ∧ fw (b + k) = some r') ∧ ∀ k', k < k' → k' ≤ j → (seg L tx b k').isSome = true → ∀ r', fw (b + k') = some r' → r < r' + 1
  | 0, r, k, h => by cases h
  | j + 1, r, k, h => by
    by_cases q : (seg L tx b (j + 1)).isSome = true ∧ nw (fw (b + j + 1)) ((cz L tx fw b j).map Prod.fst) = true
    · rw [cz_yes q] at h
      obtain ⟨r', hr'⟩ := nw_some q.2
      rw [hr'] at h
      cases h
      exact ⟨by omega, Nat.le_refl _, q.1, ⟨r', rfl, hr'⟩, fun k' h1 h2 => by omega⟩
    · rw [cz_no q] at h
      obtain ⟨h1, h2, h3, h4, h5⟩ := cz_is h
      refine ⟨h1, by omega, h3, h4, fun k' g1 g2 g3 r' g4 => ?_⟩
      by_cases e : k' = j + 1
      · subst e
        rcases Nat.lt_or_ge r (r' + 1) with z | z
        · exact z
        · exfalso
          apply q
          refine ⟨g3, ?_⟩
          have g5 : fw (b + j + 1) = some r' := g4
          rw [g5, h]
          exact decide_eq_true z
      · exact h5 k' g1 (by omega) g3 r' g4
section SPC
variable {ch : Nat → Option Nat} {wh : Nat → Bool} {hf hb ln : Nat → Nat} {sw : Nat → Option Nat} {L : List (List Nat)}
theorem TR.hsz (h : TR ch wh hf hb ln sw L) (tx : Nat → Nat) (b : Nat) (fw : Nat → Option Nat) (fe : Nat → Nat) : ∀ j, (hs ch wh tx b fw fe j).1 = fwk ch (fun i => tx (b + i)) j ∧ (∀ e, e ≠ b → (hs ch wh tx b fw fe j).2.1 e = fw e ∧ (hs ch wh tx b fw fe j).2.2 e = fe e) ∧ (hs ch wh tx b fw fe j).2.1 b = (cz L tx fw b j).map Prod.fst ∧ ∀ r k, cz L tx fw b j = some (r, k) → (hs ch wh tx b fw fe j).2.2 b = b + k
  | 0 => ⟨rfl, fun e he => ⟨va_up_ne _ _ he, rfl⟩, va_up_self _ _ _, fun r k hk => by cases hk⟩
  | j + 1 => by
    have ih := TR.hsz h tx b fw fe j
    show (hsS ch wh tx b j (hs ch wh tx b fw fe j)).1 = _ ∧ (∀ e, e ≠ b → (hsS ch wh tx b j (hs ch wh tx b fw fe j)).2.1 e = fw e ∧ (hsS ch wh tx b j (hs ch wh tx b fw fe j)).2.2 e = fe e) ∧ (hsS ch wh tx b j (hs ch wh tx b fw fe j)).2.1 b = _ ∧ ∀ r k, _ → (hsS ch wh tx b j (hs ch wh tx b fw fe j)).2.2 b = b + k
    generalize hs ch wh tx b fw fe j = s at ih
    obtain ⟨o1, f1, q1⟩ := s
    obtain ⟨i1, i2, i3, i4⟩ := ih
    have i1 : o1 = fwk ch (fun i => tx (b + i)) j := i1
    have i3 : f1 b = (cz L tx fw b j).map Prod.fst := i3
    have e1 : stp ch o1 (tx (b + j)) = fwk ch (fun i => tx (b + i)) (j + 1) := by rw [i1]; rfl
    have e2 : f1 (b + j + 1) = fw (b + j + 1) := (i2 (b + j + 1) (by omega)).1
    unfold hsS
    show stp ch o1 (tx (b + j)) = _ ∧ (∀ e, e ≠ b → (if whO wh (stp ch o1 (tx (b + j))) = true ∧ nw (f1 (b + j + 1)) (f1 b) = true then (va_up f1 b (some ((f1 (b + j + 1)).getD 0 + 1)), va_up q1 b (b + j + 1)) else (f1, q1)).1 e = fw e ∧ (if whO wh (stp ch o1 (tx (b + j))) = true ∧ nw (f1 (b + j + 1)) (f1 b) = true then (va_up f1 b (some ((f1 (b + j + 1)).getD 0 + 1)), va_up q1 b (b + j + 1)) else (f1, q1)).2 e = fe e) ∧ (if whO wh (stp ch o1 (tx (b + j))) = true ∧ nw (f1 (b + j + 1)) (f1 b) = true then (va_up f1 b (some ((f1 (b + j + 1)).getD 0 + 1)), va_up q1 b (b + j + 1)) else (f1, q1)).1 b = _ ∧ ∀ r k, _ → (if whO wh (stp ch o1 (tx (b + j))) = true ∧ nw (f1 (b + j + 1)) (f1 b) = true then (va_up f1 b (some ((f1 (b + j + 1)).getD 0 + 1)), va_up q1 b (b + j + 1)) else (f1, q1)).2 b = b + k
    rw [e1, h.whs, e2, i3]
    refine ⟨rfl, ?_⟩
    by_cases q : (seg L tx b (j + 1)).isSome = true ∧ nw (fw (b + j + 1)) ((cz L tx fw b j).map Prod.fst) = true
    · rw [if_pos q, cz_yes q]
      refine ⟨fun e he => ⟨?_, ?_⟩, va_up_self _ _ _, fun r k hk => ?_⟩
      · show va_up f1 b _ e = _
        rw [va_up_ne _ _ he]
        exact (i2 e he).1
      · show va_up q1 b _ e = _
        rw [va_up_ne _ _ he]
        exact (i2 e he).2
      · cases hk
        exact va_up_self _ _ _
    · rw [if_neg q, cz_no q]
      exact ⟨i2, i3, i4⟩
end SPC
/-- no word is longer than 7 -/
theorem cz_7 {L : List (List Nat)} (hw : ∀ w, w ∈ L → wrd w) {tx : Nat → Nat} {fw : Nat → Option Nat} {b : Nat} : ∀ j, cz L tx fw b j = cz L tx fw b (min 7 j)
  | 0 => rfl
  | j + 1 => by
    by_cases h : j + 1 ≤ 7
    · rw [Nat.min_eq_right h]
    · rw [show min 7 (j + 1) = min 7 j by omega, ← cz_7 hw j, cz_no]
      rintro ⟨z, -⟩
      rw [seg_big hw (by omega)] at z
      cases z
section SPM
variable {le sz : Nat → Nat} {cn : Nat} {L : List (List Nat)}
/-- the reference's fewest -/
theorem ML.gI (h : ML le sz cn L) (hs : srt L) (hw : ∀ w, w ∈ L → wrd w) (tx : Nat → Nat) {b n : Nat} {fw : Nat → Option Nat} {fr : Nat → Nat} (hr : ∀ e, b < e → e ≤ n → fr e = (fw e).getD 100 ∧ ∀ r, fw e = some r → r < 99) : ∀ j, b + j ≤ n → mgI tx le sz cn b fr j b = ((cz L tx fw b j).map Prod.fst).getD 100 ∧ (∀ r k, cz L tx fw b j = some (r, k) → r < 100) ∧ ∀ e, e ≠ b → mgI tx le sz cn b fr j e = fr e
  | 0, _ => ⟨va_up_self _ _ _, (fun r k hk => by cases hk), fun e he => va_up_ne _ _ he⟩
  | j + 1, hj => by
    obtain ⟨h1, h2, h3⟩ := ML.gI h hs hw tx hr j (by omega)
    obtain ⟨g1, g2⟩ := hr (b + (j + 1)) (by omega) hj
    show va_up (mgI tx le sz cn b fr j) b (mgv (mnb tx le sz cn b (j + 1)) (mgI tx le sz cn b fr j (b + (j + 1))) (mgI tx le sz cn b fr j b)) b = _ ∧ (∀ r k, cz L tx fw b (j + 1) = some (r, k) → r < 100) ∧ ∀ e, e ≠ b → va_up (mgI tx le sz cn b fr j) b _ e = fr e
    rw [va_up_self, h.nb hs hw, h3 (b + (j + 1)) (by omega), g1, h1]
    have hlast : ∀ (v : Nat) (e : Nat), e ≠ b → va_up (mgI tx le sz cn b fr j) b v e = fr e := fun v e he => by
      rw [va_up_ne _ _ he]
      exact h3 e he
    by_cases q : (seg L tx b (j + 1)).isSome = true ∧ nw (fw (b + j + 1)) ((cz L tx fw b j).map Prod.fst) = true
    · rw [cz_yes q]
      obtain ⟨r', hr'⟩ := nw_some q.2
      have hr2 : fw (b + (j + 1)) = some r' := hr'
      have hlt := g2 r' hr2
      refine ⟨?_, fun r k hk => ?_, fun e he => hlast _ e he⟩
      · obtain ⟨z, hz⟩ := Option.isSome_iff_exists.mp q.1
        rw [hz, hr2, hr']
        show (if r' + 1 < ((cz L tx fw b j).map Prod.fst).getD 100 then r' + 1 else ((cz L tx fw b j).map Prod.fst).getD 100) = r' + 1
        cases hc : cz L tx fw b j with
        | none =>
          show (if r' + 1 < 100 then r' + 1 else 100) = r' + 1
          rw [if_pos (by omega)]
        | some p =>
          obtain ⟨r, k⟩ := p
          have q2 := q.2
          rw [hc, hr'] at q2
          have q3 : r' + 1 ≤ r := of_decide_eq_true q2
          show (if r' + 1 < r then r' + 1 else r) = r' + 1
          split <;> omega
      · rw [hr'] at hk
        cases hk
        show r' + 1 < 100
        omega
    · rw [cz_no q]
      refine ⟨?_, h2, fun e he => hlast _ e he⟩
      cases hz : seg L tx b (j + 1) with
      | none => rfl
      | some z =>
        show (if (fw (b + (j + 1))).getD 100 + 1 < ((cz L tx fw b j).map Prod.fst).getD 100 then (fw (b + (j + 1))).getD 100 + 1 else ((cz L tx fw b j).map Prod.fst).getD 100) = _
        refine if_neg (fun hlt => q ⟨by rw [hz]; rfl, ?_⟩)
        show nw (fw (b + (j + 1))) _ = true
        cases hf : fw (b + (j + 1)) with
        | none =>
          rw [hf] at hlt
          have h100 : ((cz L tx fw b j).map Prod.fst).getD 100 ≤ 100 := by
            cases hc : cz L tx fw b j with
            | none => exact Nat.le_refl _
            | some p =>
              obtain ⟨r, k⟩ := p
              exact Nat.le_of_lt (h2 r k hc)
          have hlt : 100 + 1 < ((cz L tx fw b j).map Prod.fst).getD 100 := hlt
          omega
        | some r' =>
          rw [hf] at hlt
          cases hc : cz L tx fw b j with
          | none => rfl
          | some p =>
            obtain ⟨r, k⟩ := p
            rw [hc] at hlt
            have hlt : r' + 1 < r := hlt
            exact decide_eq_true (by omega)
end SPM
