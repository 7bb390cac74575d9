/-! Endings behind a cell are words of L -/
section LG
variable {ch : Nat → Option Nat} {wh : Nat → Bool} {hf : Nat → Nat} {L : List (List Nat)}
theorem wlk_nod : ∀ (v u : List Nat) (p : Nat), nod ch u = some p → nod ch (u ++ v) = wlk ch v p
  | [], u, p, h => by
    rw [List.append_nil]
    exact h
  | x :: v, u, p, h => by
    rw [show u ++ x :: v = (u ++ [x]) ++ v by simp]
    show nod ch ((u ++ [x]) ++ v) = (ch (p * 8 + x)).bind (wlk ch v)
    have h1 : nod ch (u ++ [x]) = ch (p * 8 + x) := nod_snoc_s h
    cases hc : ch (p * 8 + x) with
    | some q => exact wlk_nod v (u ++ [x]) q (by rw [h1]; exact hc)
    | none =>
      rw [hc] at h1
      show _ = none
      have : ∀ w : List Nat, nod ch ((u ++ [x]) ++ w) = none := by
        intro w
        cases hz : nod ch ((u ++ [x]) ++ w) with
        | none => rfl
        | some r =>
          exfalso
          have hup : ∀ (k : Nat) (w : List Nat) (r : Nat), w.length = k → nod ch ((u ++ [x]) ++ w) = some r → False := by
            intro k
            induction k with
            | zero =>
              intro w r hw hr
              rw [List.length_eq_zero_iff.mp hw, List.append_nil, h1] at hr
              cases hr
            | succ k ih =>
              intro w r hw hr
              rcases snoc_cases w with e | ⟨w2, y, e⟩
              · rw [e] at hw; cases hw
              · subst e
                rw [← List.append_assoc] at hr
                obtain ⟨r2, g1, -⟩ := nod_up hr
                exact ih w2 r2 (by simpa using hw) g1
          exact hup w.length w r rfl hz
      exact this v
theorem TP.ends (hT : TP ch wh hf L []) (hL : ∀ w, w ∈ L → lets w) {u v : List Nat} {p : Nat} (hu : lets u) (hv : lets v) (hp : nod ch u = some p) : whO wh (wlk ch v p) = decide (u ++ v ∈ L) := by
  have huv : lets (u ++ v) := fun x hx => (List.mem_append.mp hx).elim (hu x) (hv x)
  rw [← wlk_nod v u p hp]
  cases hz : nod ch (u ++ v) with
  | none =>
    refine (decide_eq_false (fun q => ?_)).symm
    exact (hT.2.2.1 _ huv).mpr (Or.inr (Or.inl ⟨_, q, List.prefix_rfl⟩)) hz
  | some q =>
    have := hT.2.2.2.1 _ q huv hz
    show wh q = _
    cases hw : wh q with
    | true => exact (decide_eq_true (this.mp hw)).symm
    | false => exact (decide_eq_false (fun z => by rw [this.mpr z] at hw; cases hw)).symm
end LG
