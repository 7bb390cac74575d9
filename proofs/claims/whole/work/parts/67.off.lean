/-! What is cut lies on the path -/
theorem AT.cutd {ch : Nat → Option Nat} {wh : Nat → Bool} {hf : Nat → Nat} {L : List (List Nat)} {tx : Nat → Nat} {so mb : Nat → Nat} {ac : Nat → Bool} {tg : Nat → Option Nat} {S : List Nat} {n : Nat} (hA : AT ch wh so mb ac tg S) (hT : TP ch wh hf L []) (hw : lts tx 0 n ∈ L) (hS : NO ch (lts tx 0 n) S) : AT (ctw tx ch hf n).2.1 (va_up wh (ctw tx ch hf n).1 false) so mb ac tg S ∧ NO (ctw tx ch hf n).2.1 (lts tx 0 n) S := by
  have hC := CP.way hT hw n (Nat.le_refl _)
  have hR := CP.reach hT hw hC
  obtain ⟨c1, c2, c3, c4, c5, c6⟩ := hC
  refine ⟨hA.other (fun p hp => ?_), fun p => ⟨fun hp => ?_, ?_⟩⟩
  · obtain ⟨u, hu, h1, h2⟩ := (hS p).mp hp
    refine ⟨va_up_ne _ _ (fun e => ?_), fun x hx => ?_⟩
    · rw [e] at h1
      apply h2
      rw [hT.2.1 _ _ _ hu (lts_lets tx 0 n) h1 c1]
      exact List.prefix_rfl
    · rw [c4 u p x hu h1 hx, if_neg]
      rintro ⟨z, -⟩
      exact h2 ((List.prefix_append u [x]).trans z)
  · obtain ⟨u, hu, h1, h2⟩ := (hS p).mp hp
    refine ⟨u, hu, ?_, h2⟩
    rw [(hR u.length u rfl hu).1 ?_]
    · exact h1
    · rcases (hT.2.2.1 u hu).mp (by rw [h1]; simp) with e | ⟨z, hz, e⟩ | ⟨z, hz, -⟩
      · exact Or.inl e
      · refine Or.inr ⟨z, (List.mem_erase_of_ne (fun q => ?_)).mpr hz, e⟩
        rw [q] at e
        exact h2 e
      · cases hz
  · rintro ⟨u, hu, h1, h2⟩
    exact (hS p).mpr ⟨u, hu, nod_mono c6 u.length u rfl p h1, h2⟩
