/-! How many words stand before a row -/
theorem countP_or {α : Type} {f g : α → Bool} : ∀ (L : List α), (∀ a, a ∈ L → ¬ (f a = true ∧ g a = true)) → L.countP (fun a => f a || g a) = L.countP f + L.countP g
  | [], _ => rfl
  | a :: l, h => by
    have ih := countP_or l (fun b hb => h b (List.mem_cons_of_mem _ hb))
    have ha := h a List.mem_cons_self
    rw [List.countP_cons, List.countP_cons, List.countP_cons, ih]
    cases hf : f a with
    | false =>
      cases hg : g a with
      | false => simp
      | true => simp; omega
    | true =>
      cases hg : g a with
      | false => simp; omega
      | true => exact absurd ⟨hf, hg⟩ ha
theorem countP_ext {α : Type} {f g : α → Bool} : ∀ (L : List α), (∀ a, a ∈ L → f a = g a) → L.countP f = L.countP g
  | [], _ => rfl
  | a :: l, h => by
    rw [List.countP_cons, List.countP_cons, countP_ext l (fun b hb => h b (List.mem_cons_of_mem _ hb)), h a List.mem_cons_self]
def less (L : List (List Nat)) (u : List Nat) : Nat := L.countP (fun w => lx w u)
theorem less_nil (L : List (List Nat)) : less L [] = 0 := by
  unfold less
  rw [List.countP_eq_zero]
  intro w _
  rw [lx_nil]
  decide
theorem srt_nodup {L : List (List Nat)} (h : srt L) : L.Nodup := List.Pairwise.imp (fun hab => lx_ne hab) h
theorem count_one {L : List (List Nat)} {u : List Nat} (hn : L.Nodup) : L.countP (fun w => decide (w = u)) = if u ∈ L then 1 else 0 := by
  induction L with
  | nil => rfl
  | cons a l ih =>
    have hn2 := List.nodup_cons.mp hn
    rw [List.countP_cons, ih hn2.2]
    by_cases h : a = u
    · subst h
      rw [if_neg hn2.1, if_pos (by simp), if_pos List.mem_cons_self]
    · rw [show (if decide (a = u) = true then 1 else 0) = 0 from if_neg (by simpa using h), Nat.add_zero]
      by_cases hm : u ∈ l
      · rw [if_pos hm, if_pos (List.mem_cons_of_mem _ hm)]
      · rw [if_neg hm, if_neg (fun q => (List.mem_cons.mp q).elim (fun e => h e.symm) hm)]
/-- the first letter behind u -/
theorem less_0 {L : List (List Nat)} {u : List Nat} (hn : L.Nodup) : less L (u ++ [0]) = less L u + if u ∈ L then 1 else 0 := by
  unfold less
  rw [← count_one hn, ← countP_or]
  · apply countP_ext
    intro w _
    have h := lx_snoc w u 0
    cases h1 : lx w (u ++ [0]) with
    | true =>
      rcases h.mp h1 with q | q | ⟨y, v, hy, -⟩
      · rw [q]; rfl
      · subst q; simp
      · omega
    | false =>
      have h2 : ¬ (lx w u = true ∨ w = u) := fun q => by
        have := h.mpr (q.elim Or.inl (fun e => Or.inr (Or.inl e)))
        rw [h1] at this
        cases this
      have h3 : lx w u = false := by
        cases z : lx w u with
        | false => rfl
        | true => exact absurd (Or.inl z) h2
      rw [h3, decide_eq_false (fun e => h2 (Or.inr e))]
      rfl
  · rintro w _ ⟨h1, h2⟩
    have h2 : w = u := of_decide_eq_true h2
    subst h2
    rw [lx_irr] at h1
    cases h1
/-- one letter further -/
theorem less_succ {L : List (List Nat)} {u : List Nat} {x : Nat} : less L (u ++ [x + 1]) = less L (u ++ [x]) + L.countP (fun w => (u ++ [x]).isPrefixOf w) := by
  unfold less
  rw [← countP_or]
  · apply countP_ext
    intro w _
    have h := lx_snoc w u (x + 1)
    have h' := lx_snoc w u x
    cases h1 : lx w (u ++ [x + 1]) with
    | true =>
      rcases h.mp h1 with q | q | ⟨y, v, hy, q⟩
      · rw [h'.mpr (Or.inl q)]; rfl
      · rw [h'.mpr (Or.inr (Or.inl q))]; rfl
      · by_cases e : y < x
        · rw [h'.mpr (Or.inr (Or.inr ⟨y, v, e, q⟩))]; rfl
        · have e2 : y = x := by omega
          subst e2
          have hp : u ++ [y] <+: w := ⟨v, by rw [q]; simp⟩
          rw [List.isPrefixOf_iff_prefix.mpr hp]
          simp
    | false =>
      have h2 : lx w (u ++ [x]) = false := by
        cases z : lx w (u ++ [x]) with
        | false => rfl
        | true =>
          have : lx w (u ++ [x + 1]) = true := by
            rcases h'.mp z with q | q | ⟨y, v, hy, q⟩
            · exact h.mpr (Or.inl q)
            · exact h.mpr (Or.inr (Or.inl q))
            · exact h.mpr (Or.inr (Or.inr ⟨y, v, by omega, q⟩))
          rw [h1] at this
          cases this
      have h3 : (u ++ [x]).isPrefixOf w = false := by
        cases z : (u ++ [x]).isPrefixOf w with
        | false => rfl
        | true =>
          obtain ⟨v, hv⟩ := List.isPrefixOf_iff_prefix.mp z
          have : lx w (u ++ [x + 1]) = true := h.mpr (Or.inr (Or.inr ⟨x, v, by omega, by rw [← hv]; simp⟩))
          rw [h1] at this
          cases this
      rw [h2, h3]
      rfl
  · rintro w _ ⟨h1, h2⟩
    obtain ⟨v, hv⟩ := List.isPrefixOf_iff_prefix.mp h2
    rw [← hv] at h1
    have h3 : lx (u ++ [x] ++ v) (u ++ [x] ++ []) = true := by simpa using h1
    rw [lx_app, lx_nil] at h3
    cases h3
theorem nd_le : ∀ (n : Nat) (l : List Nat), l.Nodup → (∀ a, a ∈ l → a < n) → l.length ≤ n
  | 0, l, _, h => by
    cases l with
    | nil => exact Nat.le_refl _
    | cons a t => exact absurd (h a List.mem_cons_self) (Nat.not_lt_zero _)
  | n + 1, l, hn, h => by
    have h1 := nd_le n (l.erase n) (hn.erase n) (fun a ha => by
      have h2 := (List.Nodup.mem_erase_iff hn).mp ha
      have h3 := h a h2.2
      have h4 : a ≠ n := h2.1
      omega)
    have h5 := List.length_erase (a := n) (l := l)
    by_cases hm : n ∈ l
    · rw [if_pos hm] at h5; omega
    · rw [if_neg hm] at h5; omega
