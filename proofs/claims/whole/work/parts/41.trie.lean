/-! The tree: which cell a row of letters reaches -/
def nod (ch : Nat → Option Nat) (u : List Nat) : Option Nat := u.foldl (fun o x => o.bind (fun p => ch (p * 8 + x))) (some 0)
theorem nod_nil (ch : Nat → Option Nat) : nod ch [] = some 0 := rfl
theorem nod_snoc (ch : Nat → Option Nat) (u : List Nat) (x : Nat) : nod ch (u ++ [x]) = (nod ch u).bind (fun p => ch (p * 8 + x)) := by
  unfold nod
  rw [List.foldl_append]
  rfl
theorem nod_snoc_s {ch : Nat → Option Nat} {u : List Nat} {x p : Nat} (h : nod ch u = some p) : nod ch (u ++ [x]) = ch (p * 8 + x) := by
  rw [nod_snoc, h]
  rfl
theorem nod_up {ch : Nat → Option Nat} {u : List Nat} {x q : Nat} (h : nod ch (u ++ [x]) = some q) : ∃ p, nod ch u = some p ∧ ch (p * 8 + x) = some q := by
  rw [nod_snoc] at h
  cases hu : nod ch u with
  | none => rw [hu] at h; cases h
  | some p => rw [hu] at h; exact ⟨p, rfl, h⟩
/-- every row ends in a letter or is empty -/
theorem snoc_cases (u : List Nat) : u = [] ∨ ∃ v x, u = v ++ [x] := by
  rcases List.eq_nil_or_concat u with h | ⟨v, x, h⟩
  · exact Or.inl h
  · exact Or.inr ⟨v, x, by rw [h]; simp⟩
def lets (u : List Nat) : Prop := ∀ x ∈ u, x < 8
theorem lets_nil : lets [] := fun _ h => by cases h
theorem lets_snoc {u : List Nat} {x : Nat} : lets (u ++ [x]) ↔ lets u ∧ x < 8 := by
  unfold lets
  constructor
  · intro h
    exact ⟨fun y hy => h y (List.mem_append_left _ hy), h x (by simp)⟩
  · rintro ⟨h1, h2⟩ y hy
    rcases List.mem_append.mp hy with h | h
    · exact h1 y h
    · rw [List.mem_singleton] at h; rw [h]; exact h2
theorem lets_pre {u w : List Nat} (h : u <+: w) (hw : lets w) : lets u := fun x hx => hw x (h.subset hx)
/-- the letters of a piece of the text -/
def lts (tx : Nat → Nat) (b n : Nat) : List Nat := (List.range n).map (fun k => lz (tx (b + k)))
theorem lts_0 (tx : Nat → Nat) (b : Nat) : lts tx b 0 = [] := rfl
theorem lts_succ (tx : Nat → Nat) (b n : Nat) : lts tx b (n + 1) = lts tx b n ++ [lz (tx (b + n))] := by
  unfold lts
  rw [List.range_succ, List.map_append]
  rfl
theorem lts_len (tx : Nat → Nat) (b n : Nat) : (lts tx b n).length = n := by simp [lts]
theorem lts_lets (tx : Nat → Nat) (b n : Nat) : lets (lts tx b n) := by
  intro x hx
  obtain ⟨k, -, rfl⟩ := List.mem_map.mp hx
  exact lz_lt _
theorem lts_pre {tx : Nat → Nat} {b k n : Nat} (h : k ≤ n) : lts tx b k <+: lts tx b n := by
  induction n with
  | zero => rw [show k = 0 by omega]; exact List.prefix_rfl
  | succ n ih =>
    by_cases e : k = n + 1
    · rw [e]; exact List.prefix_rfl
    · exact (ih (by omega)).trans (by rw [lts_succ]; exact List.prefix_append _ _)
/-- all letters, from b on -/
def alwF (tx : Nat → Nat) (b : Nat) : Nat → Bool
  | 0 => true
  | k + 1 => alwF tx b k && (ltr (tx (b + k))).isSome
theorem alwF_0 (tx : Nat → Nat) : ∀ n, alwF tx 0 n = alw tx n
  | 0 => rfl
  | n + 1 => by
    show (alwF tx 0 n && (ltr (tx (0 + n))).isSome) = (alw tx n && (ltr (tx n)).isSome)
    rw [alwF_0 tx n, Nat.zero_add]
theorem fwk_nod (ch : Nat → Option Nat) (tx : Nat → Nat) (b : Nat) : ∀ n, fwk ch (fun i => tx (b + i)) n = if alwF tx b n then nod ch (lts tx b n) else none
  | 0 => rfl
  | n + 1 => by
    show stp ch (fwk ch (fun i => tx (b + i)) n) (tx (b + n)) = if (alwF tx b n && (ltr (tx (b + n))).isSome) then _ else none
    rw [fwk_nod ch tx b n, lts_succ, nod_snoc]
    cases ha : alwF tx b n with
    | false => rfl
    | true =>
      cases hc : ltr (tx (b + n)) with
      | none => rw [stp_c hc]; rfl
      | some q =>
        have hz : lz (tx (b + n)) = q := by unfold lz; rw [hc]; rfl
        rw [hz]
        show stp ch (nod ch (lts tx b n)) (tx (b + n)) = (nod ch (lts tx b n)).bind _
        cases hn : nod ch (lts tx b n) with
        | none => rfl
        | some p => rw [stp_s hc]; rfl
/-- more cells than rows there cannot be -/
theorem pig : ∀ (n : Nat) (B : List (Option Nat)), (∀ p, 1 ≤ p → p ≤ n → some p ∈ B) → n ≤ B.length
  | 0, _, _ => Nat.zero_le _
  | n + 1, B, h => by
    have h1 : some (n + 1) ∈ B := h (n + 1) (by omega) (by omega)
    have h2 := pig n (B.erase (some (n + 1))) (fun p hp1 hp2 => (List.mem_erase_of_ne (by intro e; cases e; omega)).mpr (h p hp1 (by omega)))
    rw [List.length_erase_of_mem h1] at h2
    have h3 : 0 < B.length := List.length_pos_of_mem h1
    omega
