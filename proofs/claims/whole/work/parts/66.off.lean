/-! What grows lies on the path -/
section GO
variable {ch : Nat → Option Nat} {wh : Nat → Bool} {hf : Nat → Nat} {L : List (List Nat)} {tx : Nat → Nat}
theorem nod_mono {ch' : Nat → Option Nat} (h : ∀ i q, ch i = some q → ch' i = some q) : ∀ (k : Nat) (u : List Nat), u.length = k → ∀ p, nod ch u = some p → nod ch' u = some p := by
  intro k
  induction k with
  | zero =>
    intro u hu p hp
    rw [List.length_eq_zero_iff.mp hu] at hp ⊢
    exact hp
  | succ k ih =>
    intro u hu p hp
    rcases snoc_cases u with rfl | ⟨v, y, rfl⟩
    · cases hu
    · obtain ⟨r, h1, h2⟩ := nod_up hp
      rw [nod_snoc_s (ih v (by simpa using hu) r h1)]
      exact h _ _ h2
theorem grw_keep : ∀ k i q, ch i = some q → (grw tx ch hf k).2.1 i = some q
  | 0, i, q, h => h
  | k + 1, i, q, h => by
    have ih := grw_keep k i q h
    show (grS (tx k) (grw tx ch hf k)).2.1 i = some q
    generalize grw tx ch hf k = s at ih
    unfold grS
    cases hz : s.2.1 (s.1 * 8 + lz (tx k)) with
    | some r => exact ih
    | none =>
      show va_up s.2.1 (s.1 * 8 + lz (tx k)) _ i = some q
      rw [va_up_ne _ _ (fun e => by rw [e, hz] at ih; cases ih)]
      exact ih
theorem grw_off {p x : Nat} (hx : x < 8) : ∀ k, (∀ i, i < k → (grw tx ch hf i).1 ≠ p) → (grw tx ch hf k).2.1 (p * 8 + x) = ch (p * 8 + x)
  | 0, _ => rfl
  | k + 1, h => by
    have ih := grw_off hx k (fun i hi => h i (by omega))
    have hk := h k (by omega)
    show (grS (tx k) (grw tx ch hf k)).2.1 (p * 8 + x) = _
    generalize grw tx ch hf k = s at ih hk
    have hlz := lz_lt (tx k)
    unfold grS
    cases hz : s.2.1 (s.1 * 8 + lz (tx k)) with
    | some r => exact ih
    | none =>
      show va_up s.2.1 (s.1 * 8 + lz (tx k)) _ (p * 8 + x) = _
      rw [va_up_ne _ _ (by omega)]
      exact ih
/-- off the path all stays -/
theorem TP.offs (hT : TP ch wh hf L []) {n : Nat} (hs : (L.map List.length).sum + n ≤ 210) {u : List Nat} {p : Nat} (hu : lets u) (hp : nod ch u = some p) (hno : ¬ u <+: lts tx 0 n) : ∀ i, i ≤ n → (grw tx ch hf i).1 ≠ p := by
  intro i hi e
  obtain ⟨t1, t2⟩ := TP.way (tx := tx) hT i (by omega)
  have h1 := nod_mono (grw_keep (tx := tx) (hf := hf) i) u.length u rfl p hp
  rw [e] at t2
  have := t1.2.1 _ _ _ hu (lts_lets tx 0 i) h1 t2
  exact hno (by rw [this]; exact lts_pre hi)
theorem AT.grown {so mb : Nat → Nat} {ac : Nat → Bool} {tg : Nat → Option Nat} {S : List Nat} (hA : AT ch wh so mb ac tg S) (hT : TP ch wh hf L []) {n : Nat} (hs : (L.map List.length).sum + n ≤ 210) (hS : NO ch (lts tx 0 n) S) : AT (grw tx ch hf n).2.1 (va_up wh (grw tx ch hf n).1 true) so mb ac tg S ∧ NO (grw tx ch hf n).2.1 (lts tx 0 n) S := by
  have hG := TP.grown (tx := tx) (n := n) hT hs
  have hmono := fun u p => nod_mono (grw_keep (tx := tx) (hf := hf) (ch := ch) n) (List.length u) u rfl p
  refine ⟨hA.other (fun p hp => ?_), fun p => ⟨fun hp => ?_, ?_⟩⟩
  · obtain ⟨u, hu, h1, h2⟩ := (hS p).mp hp
    have hoff := hT.offs hs hu h1 h2
    exact ⟨va_up_ne _ _ (fun e => hoff n (Nat.le_refl _) e.symm), fun x hx => grw_off hx n (fun i hi => hoff i (by omega))⟩
  · obtain ⟨u, hu, h1, h2⟩ := (hS p).mp hp
    exact ⟨u, hu, hmono u p h1, h2⟩
  · rintro ⟨u, hu, h1, h2⟩
    have hex : nod ch u ≠ none := by
      rcases (hG.2.2.1 u hu).mp (by rw [h1]; simp) with e | ⟨w, hw, e⟩ | ⟨w, hw, -⟩
      · rw [e] at h2
        exact absurd List.nil_prefix h2
      · rcases List.mem_cons.mp hw with e2 | e2
        · rw [e2] at e
          exact absurd e h2
        · exact (hT.2.2.1 u hu).mpr (Or.inr (Or.inl ⟨w, e2, e⟩))
      · cases hw
    cases hz : nod ch u with
    | none => exact absurd hz hex
    | some q =>
      have := hmono u q hz
      rw [h1] at this
      cases this
      exact (hS p).mpr ⟨u, hu, hz, h2⟩
end GO
